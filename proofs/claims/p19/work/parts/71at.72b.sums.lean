/-! sums of numbers that wrap -/
def sm (f : Nat → Int32) : Nat → Int32
  | 0 => 0
  | n + 1 => sm f n + f n
section SM
variable {f g : Nat → Int32}
theorem sm_s {n : Nat} : sm f (n + 1) = sm f n + f n := rfl
theorem sm_cg : ∀ {n : Nat}, (∀ i, i < n → f i = g i) → sm f n = sm g n
  | 0, _ => rfl
  | n + 1, h => by rw [sm_s, sm_s, sm_cg (n := n) (fun i hi => h i (by omega)), h n (by omega)]
theorem sm_0 : ∀ {n : Nat}, (∀ i, i < n → f i = 0) → sm f n = 0
  | 0, _ => rfl
  | n + 1, h => by rw [sm_s, sm_0 (n := n) (fun i hi => h i (by omega)), h n (by omega), Int32.add_zero]
theorem sm_ext {n m : Nat} (h : n ≤ m) (hp : ∀ i, n ≤ i → i < m → f i = 0) : sm f m = sm f n := by
  obtain ⟨d, rfl⟩ := Nat.exists_eq_add_of_le h
  induction d with
  | zero => rfl
  | succ d ih =>
    show sm f (n + d) + f (n + d) = sm f n
    rw [ih (by omega) (fun i h1 h2 => hp i h1 (by omega)), hp (n + d) (by omega) (by omega), Int32.add_zero]
theorem sm_add : ∀ {n : Nat}, sm (fun i => f i + g i) n = sm f n + sm g n
  | 0 => (Int32.add_zero 0).symm
  | n + 1 => by
    rw [sm_s, sm_s, sm_s, sm_add]
    rw [Int32.add_assoc, Int32.add_assoc, ← Int32.add_assoc (sm g n), ← Int32.add_assoc (f n), Int32.add_comm (sm g n) (f n)]
theorem sm_sub : ∀ {n : Nat}, sm (fun i => f i - g i) n = sm f n - sm g n
  | 0 => (Int32.sub_self 0).symm
  | n + 1 => by
    rw [sm_s, sm_s, sm_s, sm_sub]
    rw [Int32.sub_eq_add_neg, Int32.sub_eq_add_neg, Int32.sub_eq_add_neg, Int32.neg_add, Int32.sub_eq_add_neg]
    rw [Int32.add_assoc, Int32.add_assoc, ← Int32.add_assoc (-sm g n), ← Int32.add_assoc (f n), Int32.add_comm (-sm g n) (f n)]
theorem sm_mul {c : Int32} : ∀ {n : Nat}, sm (fun i => c * f i) n = c * sm f n
  | 0 => Int32.mul_zero.symm
  | n + 1 => by rw [sm_s, sm_s, sm_mul, Int32.mul_add]
theorem sm_one {k : Nat} {x : Int32} : ∀ {n : Nat}, sm (fun i => if i = k then x else 0) n = if k < n then x else 0
  | 0 => by rw [if_neg (by omega)]; rfl
  | n + 1 => by
    rw [sm_s, sm_one]
    by_cases h : k < n
    · rw [if_pos h, if_neg (by omega), if_pos (by omega), Int32.add_zero]
    · rw [if_neg h]
      by_cases e : n = k
      · rw [if_pos e, if_pos (by omega), Int32.zero_add]
      · rw [if_neg e, if_neg (by omega), Int32.add_zero]
end SM
theorem kI_n1 {a b : Nat} : kI ((a + b : Nat) : Int) = kI (a : Nat) + kI (b : Nat) := by
  show Int32.ofInt ((a + b : Nat) : Int) = _
  rw [Int.natCast_add, Int32.ofInt_add]
theorem kI_nm {a b : Nat} : kI ((a * b : Nat) : Int) = kI (a : Nat) * kI (b : Nat) := by
  show Int32.ofInt ((a * b : Nat) : Int) = _
  rw [Int.natCast_mul, Int32.ofInt_mul]
theorem sm_cN {p : Nat → Bool} : ∀ {n : Nat}, sm (fun i => if p i = true then kI 1 else 0) n = kI ((cN p n : Nat) : Int)
  | 0 => rfl
  | n + 1 => by
    show sm _ n + (if p n = true then kI 1 else 0) = kI ((cN p n + (if p n = true then 1 else 0) : Nat) : Int)
    rw [sm_cN, kI_n1]
    by_cases h : p n = true
    · rw [if_pos h, if_pos h]
      rfl
    · rw [if_neg h, if_neg h]
      rfl
/-- over couples -/
def s2 (c : Nat → Nat → Bool) (g : Nat → Nat → Int32) (n : Nat) : Int32 := sm (fun i => sm (fun j => if c i j = true then g i j else 0) n) n
section S2
variable {c d : Nat → Nat → Bool} {g h : Nat → Nat → Int32} {n m : Nat}
theorem s2_cg (hc : ∀ i j, i < n → j < n → c i j = d i j) (hg : ∀ i j, i < n → j < n → c i j = true → g i j = h i j) : s2 c g n = s2 d h n := by
  refine sm_cg fun i hi => sm_cg fun j hj => ?_
  rw [← hc i j hi hj]
  by_cases e : c i j = true
  · rw [if_pos e, if_pos e, hg i j hi hj e]
  · rw [if_neg e, if_neg e]
theorem s2_ext (hn : n ≤ m) (hc : ∀ i j, i < m → j < m → (n ≤ i ∨ n ≤ j) → c i j = false) : s2 c g m = s2 c g n := by
  unfold s2
  rw [sm_ext (n := n) (m := m) hn (fun i h1 h2 => sm_0 fun j hj => by rw [hc i j h2 hj (Or.inl h1)]; rfl)]
  refine sm_cg fun i hi => sm_ext hn (fun j h1 h2 => by rw [hc i j (by omega) h2 (Or.inr h1)]; rfl)
/-- two kinds of couples apart -/
theorem s2_or (hd : ∀ i j, i < n → j < n → ¬ (c i j = true ∧ d i j = true)) : s2 (fun i j => c i j || d i j) g n = s2 c g n + s2 d g n := by
  unfold s2
  rw [← sm_add]
  refine sm_cg fun i hi => ?_
  rw [← sm_add]
  refine sm_cg fun j hj => ?_
  have q := hd i j hi hj
  show (if (c i j || d i j) = true then g i j else 0) = (if c i j = true then g i j else 0) + (if d i j = true then g i j else 0)
  cases hc : c i j <;> cases he : d i j
  · exact (Int32.add_zero 0).symm
  · exact (Int32.zero_add _).symm
  · exact (Int32.add_zero _).symm
  · exact absurd ⟨hc, he⟩ q
/-- a count of couples is no more than n times n -/
theorem s2_n : ∃ k : Nat, k ≤ n * n ∧ s2 c (fun _ _ => kI 1) n = kI (k : Nat) := by
  have key : ∀ m, ∃ k : Nat, k ≤ m * n ∧ sm (fun i => sm (fun j => if c i j = true then kI 1 else 0) n) m = kI (k : Nat) := by
    intro m
    induction m with
    | zero => exact ⟨0, Nat.zero_le _, rfl⟩
    | succ m ih =>
      obtain ⟨k, h1, h2⟩ := ih
      refine ⟨k + cN (fun j => c m j) n, ?_, ?_⟩
      · have := cN_le (p := fun j => c m j) (n := n)
        rw [Nat.succ_mul]
        omega
      · rw [sm_s, h2, sm_cN, kI_n1]
  exact key n
end S2
/-- of two sets -/
def cS (A B : Nat → Bool) (i j : Nat) : Bool := A i && (B j && !decide (i = j))
theorem cS_count {A B : Nat → Bool} {n : Nat} : s2 (cS A B) (fun _ _ => kI 1) n = kI (cN A n : Nat) * kI (cN B n : Nat) - kI (cN (fun i => A i && B i) n : Nat) := by
  have e : s2 (cS A B) (fun _ _ => kI 1) n = sm (fun i => kI (cN B n : Nat) * (if A i = true then kI 1 else 0) - (if (A i && B i) = true then kI 1 else 0)) n := by
    refine sm_cg fun i hi => ?_
    cases hA : A i with
    | false =>
      rw [if_neg (by decide), Int32.mul_zero]
      rw [show (if (false && B i) = true then kI 1 else 0) = (0 : Int32) from rfl, Int32.sub_zero]
      refine sm_0 fun j _ => ?_
      unfold cS
      rw [hA]
      rfl
    | true =>
      rw [if_pos rfl]
      have q : sm (fun j => if cS A B i j = true then kI 1 else 0) n = sm (fun j => (if B j = true then kI 1 else 0) - (if j = i then (if B i = true then kI 1 else 0) else 0)) n := by
        refine sm_cg fun j _ => ?_
        unfold cS
        rw [hA]
        by_cases h : j = i
        · subst h
          rw [if_pos rfl, Int32.sub_self, if_neg]
          rw [decide_eq_true rfl]
          cases B j <;> decide
        · rw [if_neg h, Int32.sub_zero, decide_eq_false (fun e => h e.symm)]
          cases B j <;> rfl
      rw [q, sm_sub, sm_cN, sm_one, if_pos hi]
      show kI (cN B n : Nat) - _ = kI (cN B n : Nat) * 1 - _
      rw [Int32.mul_one]
      cases B i <;> rfl
  rw [e, sm_sub, sm_mul, sm_cN, sm_cN, Int32.mul_comm]
/-! the mean, downwards -/
theorem x_neg {x y : Int32} (hy : 0 < y.toInt) : (x ^^^ y) < 0 ↔ x.toInt < 0 := by
  rw [i_lt, i_0]
  have a : ∀ z : Int32, z.toInt < 0 ↔ z.toBitVec.msb = true := fun z => by
    rw [BitVec.msb_eq_toInt, decide_eq_true_iff]
    exact Iff.rfl
  rw [a, a]
  have hb : y.toBitVec.msb = false := by
    cases e : y.toBitVec.msb with
    | false => rfl
    | true =>
      have := (a y).mpr e
      omega
  show (x.toBitVec ^^^ y.toBitVec).msb = true ↔ _
  rw [BitVec.msb_xor, hb, Bool.xor_false]
theorem pRem_0 {x y : Int32} : pRem x y = 0 ↔ x / y * y = x := by
  unfold pRem
  rw [Int32.sub_eq_iff_eq_add, Int32.zero_add]
  exact ⟨fun h => h.symm, fun h => h.symm⟩
theorem fd_43 {x y : Int32} (hy : 0 < y.toInt) : pFd x y = f_43 x y := by
  unfold pFd f_43
  rw [if_pos (show ¬ y = 0 from fun e => by rw [e, i_0] at hy; omega)]
  by_cases h : (x ^^^ y) < 0
  · rw [if_pos h]
    have hx := (x_neg hy).mp h
    by_cases r : x / y * y = x
    · rw [if_pos r, if_pos (pRem_0.mpr r)]
    · rw [if_neg r, if_neg (fun q => r (pRem_0.mp q)), if_neg (by rw [i_le, i_0]; omega)]
      rfl
  · rw [if_neg h]
    have hx : ¬ x.toInt < 0 := fun q => h ((x_neg (x := x) hy).mpr q)
    by_cases r : pRem x y = 0
    · rw [if_pos r]
    · rw [if_neg r, if_pos (by rw [i_le, i_0]; omega)]
theorem f38_43 {x y : Int32} (hy : 0 ≤ y.toInt) : f_38 x y = f_43 x y := by
  unfold f_38
  by_cases h : y ≤ 0
  · rw [if_pos h]
    rw [i_le, i_0] at h
    have e : y = 0 := by rw [i_eq, i_0]; omega
    unfold f_43
    rw [if_neg (nn e)]
  · rw [if_neg h]
    rw [i_le, i_0] at h
    exact fd_43 (by omega)
/-- the mean of what g says of the couples of two sets -/
def mnS (A B : Nat → Bool) (g : Nat → Nat → Int32) : Int32 := f_43 (s2 (cS A B) g 24) (s2 (cS A B) (fun _ _ => kI 1) 24)
theorem mnS_cg {A B A' B' : Nat → Bool} {g h : Nat → Nat → Int32} (hA : ∀ i, i < 24 → A i = A' i) (hB : ∀ i, i < 24 → B i = B' i) (hg : ∀ i j, i < 24 → j < 24 → g i j = h i j) : mnS A B g = mnS A' B' h := by
  have hc : ∀ i j, i < 24 → j < 24 → cS A B i j = cS A' B' i j := fun i j hi hj => by
    unfold cS
    rw [hA i hi, hB j hj]
  unfold mnS
  rw [s2_cg (h := h) hc (fun i j hi hj _ => hg i j hi hj), s2_cg (g := fun _ _ => kI 1) (h := fun _ _ => kI 1) hc (fun _ _ _ _ _ => rfl)]
/-- of all that are of two sets, either way -/
def crS (A B : Nat → Bool) (g : Nat → Nat → Int32) : Int32 := f_43 (s2 (cS A B) g 24 + s2 (cS B A) g 24) (kI 2 * kI (cN A 24 : Nat) * kI (cN B 24 : Nat))
theorem ix24 {x y : Int32} {i j : Nat} (hx : x.toInt = i) (hy : y.toInt = j) (hi : i < 24) (hj : j < 24) : ix (x * kI 24 + y) = 24 * i + j ∧ ix (kI 24 * x + y) = 24 * i + j := by
  have e : (kI 24 * x).toInt = 24 * i := by rw [i_mul (by rw [hx, kI_toInt (by decide) (by decide)]; omega) (by rw [hx, kI_toInt (by decide) (by decide)]; omega), hx, kI_toInt (by decide) (by decide)]
  have e2 : (kI 24 * x + y).toInt = ((24 * i + j : Nat) : Int) := by rw [i_add (by rw [e, hy]; omega) (by rw [e, hy]; omega), e, hy]; omega
  exact ⟨by rw [Int32.mul_comm]; exact ix_of e2, ix_of e2⟩
theorem n_add1 {x : Int32} {i : Nat} (h : x.toInt = i) (hi : i ≤ 1000000) : (x + kI 1).toInt = ((i + 1 : Nat) : Int) := by
  rw [i_add1 (by omega), h]
  omega
/-! the class's sums -/
def lkW (M : pMem) (w : Nat) (i j : Nat) : Int32 := M (w + 3) (24 * i + j)
def gW (M : pMem) (w : Nat) (p1 p2 : Int32) (i j : Nat) : Int32 := if cS (bt p1) (bt p2) i j = true then lkW M w i j else 0
theorem gW_0 {M : pMem} {w : Nat} {p1 p2 : Int32} {i j : Nat} (h : bt p1 i = false ∨ bt p2 j = false ∨ i = j) : gW M w p1 p2 i j = 0 := by
  unfold gW cS
  rcases h with h | h | h
  · rw [h]; rfl
  · rw [h, Bool.false_and, Bool.and_false]; rfl
  · rw [decide_eq_true h, Bool.not_true, Bool.and_false, Bool.and_false]; rfl
theorem D_232_w {w : Nat} {p1 p2 : Int32} {M v N} (h : D_232 w p1 p2 M v N) : v = s2 (cS (bt p1) (bt p2)) (lkW M w) 24 ∧ N = M := by
  have q := h (fun x3 x4 M' v N => ∀ i : Nat, x4.toInt = i → i ≤ 24 → M' = M → x3 = sm (fun i => sm (gW M w p1 p2 i) 24) i → v = sm (fun i => sm (gW M w p1 p2 i) 24) 24 ∧ N = M,
    fun x3 x4 x5 M' v N => ∀ i j : Nat, x4.toInt = i → x5.toInt = j → i < 24 → j ≤ 24 → M' = M → x3 = sm (fun i => sm (gW M w p1 p2 i) 24) i + sm (gW M w p1 p2 i) j → v = sm (fun i => sm (gW M w p1 p2 i) 24) 24 ∧ N = M) ⟨?_, ?_⟩
  · exact q 0 rfl (Nat.zero_le _) rfl rfl
  · intro x3 x4 M' v N hs i hi hi24 hM hx
    rcases hs with ⟨g, hv, hN⟩ | ⟨g, hs⟩
    · rw [i_le, hi, kI_toInt (by decide) (by decide)] at g
      have e : i = 24 := by omega
      rw [hv, hN, hM, hx, e]
      exact ⟨rfl, rfl⟩
    · rw [i_le, hi, kI_toInt (by decide) (by decide)] at g
      exact hs i 0 hi rfl (by omega) (Nat.zero_le _) hM (by rw [hx]; exact (Int32.add_zero _).symm)
  · intro x3 x4 x5 M' v N hs i j hi hj hi24 hj24 hM hx
    rcases hs with ⟨g, hs⟩ | ⟨g, hs⟩
    · have g := (f37_n hi (by omega)).mp g
      refine hs (i + 1) (n_add1 hi (by omega)) (by omega) hM ?_
      rw [hx, sm_s, sm_0 (fun k _ => gW_0 (Or.inl g)), sm_0 (fun k _ => gW_0 (Or.inl g))]
    · have g := (f37_y hi (by omega)).mp g
      rcases hs with ⟨g2, hs⟩ | ⟨g2, hs⟩
      · rw [i_le, hj, kI_toInt (by decide) (by decide)] at g2
        refine hs (i + 1) (n_add1 hi (by omega)) (by omega) hM ?_
        have e : j = 24 := by omega
        rw [hx, e]
        rfl
      · rw [i_le, hj, kI_toInt (by decide) (by decide)] at g2
        have step : ∀ {y : Int32}, y = x3 + gW M w p1 p2 i j → y = sm (fun i => sm (gW M w p1 p2 i) 24) i + sm (gW M w p1 p2 i) (j + 1) := fun e => by rw [e, hx, sm_s, Int32.add_assoc]
        rcases hs with ⟨g3, hs⟩ | ⟨g3, hs⟩
        · refine hs i (j + 1) hi (n_add1 hj (by omega)) hi24 (by omega) hM (step ?_)
          rw [gW_0 (Or.inr (Or.inr (by rw [i_eq, hi, hj] at g3; omega))), Int32.add_zero]
        · rcases hs with ⟨g4, hs⟩ | ⟨g4, _, hs⟩
          · have g4 := (f37_n hj (by omega)).mp g4
            refine hs i (j + 1) hi (n_add1 hj (by omega)) hi24 (by omega) hM (step ?_)
            rw [gW_0 (Or.inr (Or.inl g4)), Int32.add_zero]
          · have g4 := (f37_y hj (by omega)).mp g4
            refine hs i (j + 1) hi (n_add1 hj (by omega)) hi24 (by omega) hM (step ?_)
            have ne : ¬ i = j := fun e => g3 (by rw [i_eq, hi, hj, e])
            have c : cS (bt p1) (bt p2) i j = true := by
              unfold cS
              rw [g, g4, decide_eq_false ne]
              rfl
            rw [(ix24 hi hj hi24 (by omega)).1, hM]
            unfold gW
            rw [if_pos c]
            rfl
/-- a set of boys has no bits beyond -/
def nb (x : Int32) : Prop := ∀ i, 24 ≤ i → bt x i = false
theorem nb_and {x y : Int32} (h : nb x) : nb (x &&& y) := fun i hi => by rw [bt_and, h i hi, Bool.false_and]
theorem f239_24 {x : Int32} (h : nb x) : f_239 x = kI (cN (bt x) 24 : Nat) := by
  rw [f239_n, cN_ext (n := 24) (m := 32) (by decide) (fun i h1 _ => h i h1)]
theorem D_231_w {w : Nat} {p1 p2 : Int32} (h1 : nb p1) (h2 : nb p2) {M v N} (h : D_231 w p1 p2 M v N) : v = mnS (bt p1) (bt p2) (lkW M w) ∧ N = M := by
  obtain ⟨v1, M1, h232, hv, hN⟩ := h
  obtain ⟨e1, e2⟩ := D_232_w h232
  refine ⟨?_, by rw [hN, e2]⟩
  have ec : f_239 p1 * f_239 p2 - f_239 (p1 &&& p2) = s2 (cS (bt p1) (bt p2)) (fun _ _ => kI 1) 24 := by
    rw [cS_count, f239_24 h1, f239_24 h2, f239_24 (nb_and h1), cN_cg (p := bt (p1 &&& p2)) (q := fun i => bt p1 i && bt p2 i) (fun i _ => bt_and)]
  rw [hv, ec, e1]
  obtain ⟨k, hk, ek⟩ := s2_n (c := cS (bt p1) (bt p2)) (n := 24)
  rw [f38_43]
  · rfl
  · rw [ek, kI_toInt (by omega) (by omega)]
    omega
theorem D_230_w {w : Nat} {M v N} (h1 : nb (f_226 w (kI 0) M)) (h2 : nb (f_226 w (kI 1) M)) (h : D_230 w M v N) : v = crS (bt (f_226 w (kI 0) M)) (bt (f_226 w (kI 1) M)) (lkW M w) ∧ N = M := by
  obtain ⟨v1, M1, ha, v2, M2, hb, hv, hN⟩ := h
  obtain ⟨a1, a2⟩ := D_232_w ha
  rw [a2] at hb
  obtain ⟨b1, b2⟩ := D_232_w hb
  refine ⟨?_, by rw [hN, b2]⟩
  rw [hv, f239_24 h1, f239_24 h2, a1, b1]
  have l1 := cN_le (p := bt (f_226 w (kI 0) M)) (n := 24)
  have l2 := cN_le (p := bt (f_226 w (kI 1) M)) (n := 24)
  rw [f38_43]
  · rfl
  · have e : kI 2 * kI (cN (bt (f_226 w (kI 0) M)) 24 : Nat) * kI (cN (bt (f_226 w (kI 1) M)) 24 : Nat) = kI ((2 * cN (bt (f_226 w (kI 0) M)) 24 * cN (bt (f_226 w (kI 1) M)) 24 : Nat) : Int) := by
      rw [kI_nm, kI_nm]
      rfl
    have b : 2 * cN (bt (f_226 w (kI 0) M)) 24 * cN (bt (f_226 w (kI 1) M)) 24 ≤ 2 * 24 * 24 := Nat.mul_le_mul (Nat.mul_le_mul (Nat.le_refl _) l1) l2
    rw [e, kI_toInt (by omega) (by omega)]
    omega
