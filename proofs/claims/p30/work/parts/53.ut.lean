/-! numbers, places: what the trees are read with -/
theorem kI_toInt {n : Int} (h1 : -2147483648 ≤ n) (h2 : n ≤ 2147483647) : (kI n).toInt = n := Int32.toInt_ofInt_of_le h1 (by omega)
theorem kI_inj {x : Int32} {n : Int} (h : x.toInt = n) : x = kI n := by
  rw [← h]
  exact (Int32.ofInt_toInt x).symm
theorem i_rg (x : Int32) : -2147483648 ≤ x.toInt ∧ x.toInt ≤ 2147483647 := ⟨Int32.le_toInt x, by have := Int32.toInt_lt x; omega⟩
theorem i_eq {x y : Int32} : x = y ↔ x.toInt = y.toInt := Int32.toInt_inj.symm
theorem i_lt {x y : Int32} : x < y ↔ x.toInt < y.toInt := Int32.lt_iff_toInt_lt
theorem i_le {x y : Int32} : x ≤ y ↔ x.toInt ≤ y.toInt := Int32.le_iff_toInt_le
theorem i_add {x y : Int32} (h1 : -2147483648 ≤ x.toInt + y.toInt) (h2 : x.toInt + y.toInt ≤ 2147483647) : (x + y).toInt = x.toInt + y.toInt := by
  have e : x + y = kI (x.toInt + y.toInt) := by
    show x + y = Int32.ofInt (x.toInt + y.toInt)
    rw [Int32.ofInt_add, Int32.ofInt_toInt, Int32.ofInt_toInt]
  rw [e, kI_toInt h1 h2]
theorem i_sub {x y : Int32} (h1 : -2147483648 ≤ x.toInt - y.toInt) (h2 : x.toInt - y.toInt ≤ 2147483647) : (x - y).toInt = x.toInt - y.toInt := by
  have e : x - y = kI (x.toInt - y.toInt) := by
    show x - y = Int32.ofInt (x.toInt - y.toInt)
    rw [Int32.ofInt_sub, Int32.ofInt_toInt, Int32.ofInt_toInt]
  rw [e, kI_toInt h1 h2]
theorem i_mul {x y : Int32} (h1 : -2147483648 ≤ x.toInt * y.toInt) (h2 : x.toInt * y.toInt ≤ 2147483647) : (x * y).toInt = x.toInt * y.toInt := by
  have e : x * y = kI (x.toInt * y.toInt) := by
    show x * y = Int32.ofInt (x.toInt * y.toInt)
    rw [Int32.ofInt_mul, Int32.ofInt_toInt, Int32.ofInt_toInt]
  rw [e, kI_toInt h1 h2]
theorem ix_of {x : Int32} {n : Nat} (h : x.toInt = n) : ix x = n := by
  show x.toInt.toNat = n
  omega
theorem ix_in {x : Int32} {n : Nat} (h : pIn x n) : x.toInt = (ix x : Int) ∧ ix x < n := by
  obtain ⟨h1, h2⟩ := h
  have : ix x = x.toInt.toNat := rfl
  omega
theorem kI0 : (kI 0).toInt = 0 := rfl
theorem kI1 : (kI 1).toInt = 1 := rfl
theorem kIz : kI 0 = 0 := rfl
theorem i_0 : (0 : Int32).toInt = 0 := rfl
theorem i_add1 {x : Int32} (h : x.toInt ≤ 2147483646) : (x + kI 1).toInt = x.toInt + 1 := by
  have := i_rg x
  rw [i_add (by rw [kI1]; omega) (by rw [kI1]; omega), kI1]
/-! memories -/
theorem aPut_same {M : pMem} {a j : Nat} {x : Int32} : aPut M a j x a j = x := by
  unfold aPut
  rw [if_pos rfl, if_pos rfl]
theorem aPut_cell {M : pMem} {a b j i : Nat} {x : Int32} (h : b ≠ a) : aPut M a j x b i = M b i := by
  unfold aPut
  rw [if_neg h]
theorem aPut_at {M : pMem} {a b j i : Nat} {x : Int32} (h : i ≠ j) : aPut M a j x b i = M b i := by
  unfold aPut
  by_cases e : b = a
  · rw [if_pos e, if_neg h]
  · rw [if_neg e]
theorem aPut_row {M : pMem} {a j i : Nat} {x : Int32} : aPut M a j x a i = if i = j then x else M a i := by
  unfold aPut
  rw [if_pos rfl]
theorem aRow_same' {M : pMem} {a : Nat} {g : Nat → Int32} : aRow M a g a = g := by
  unfold aRow
  rw [if_pos rfl]
theorem aRow_cell {M : pMem} {a b : Nat} {g : Nat → Int32} (h : b ≠ a) : aRow M a g b = M b := by
  unfold aRow
  rw [if_neg h]
/-- plain functions of yes and no -/
theorem f_42_iff {v a b : Int32} : ¬ f_42 v a b = 0 ↔ a ≤ v ∧ v ≤ b := by
  unfold f_42
  simp only [i_le, i_lt]
  by_cases h1 : v.toInt < a.toInt
  · simp only [if_pos h1]
    exact ⟨fun h => absurd rfl h, fun h => by omega⟩
  · by_cases h2 : b.toInt < v.toInt
    · simp only [if_neg h1, if_pos h2]
      exact ⟨fun h => absurd rfl h, fun h => by omega⟩
    · simp only [if_neg h1, if_neg h2]
      exact ⟨fun _ => by omega, fun _ => by decide⟩
theorem tIf_p {α : Type} {c : Prop} {A B : pT α} {v : α} {N : pMem} (g : c) (h : tIf c A B v N) : A v N := h.elim (fun q => q.2) (fun q => absurd g q.1)
theorem tIf_n {α : Type} {c : Prop} {A B : pT α} {v : α} {N : pMem} (g : ¬ c) (h : tIf c A B v N) : B v N := h.elim (fun q => absurd q.1 g) (fun q => q.2)
theorem nn {p : Prop} (h : p) : ¬ ¬ p := fun q => q h
theorem pOut_nil {a j : Nat} : (pOut [] a j = true) = True := eq_true rfl
theorem pOut_cons {b f a j : Nat} {L : List (Nat × Nat)} : (pOut ((b, f) :: L) a j = true) = (¬ (b = a ∧ (f = 999 ∨ f = j)) ∧ pOut L a j = true) := by
  have e : pOut ((b, f) :: L) a j = (!(Nat.beq b a && (Nat.beq f 999 || Nat.beq f j)) && pOut L a j) := rfl
  rw [e, Bool.and_eq_true, Bool.not_eq_true', Bool.and_eq_false_iff, Bool.or_eq_false_iff]
  apply propext
  have q : ∀ x y : Nat, (Nat.beq x y = false) = (¬ x = y) := fun x y => propext ⟨fun h e => (by rw [e, Nat.beq_refl] at h; cases h), fun h => Bool.eq_false_iff.mpr fun k => h (Nat.eq_of_beq_eq_true k)⟩
  rw [q, q, q]
  constructor
  · rintro ⟨h1, h2⟩
    exact ⟨by omega, h2⟩
  · rintro ⟨h1, h2⟩
    exact ⟨by omega, h2⟩
theorem pScr_of {a : Nat} (h1 : pScrA a = false) (h2 : a ≠ 188) (j : Nat) : pScr a j = false := by
  unfold pScr
  rw [h1, show Nat.beq a 188 = false from Bool.eq_false_iff.mpr fun q => h2 (Nat.eq_of_beq_eq_true q)]
  rfl
theorem pl_scrA : ∀ k, k < 4 → ∀ o, o < 4 → pScrA (37 + 11 * k + o) = false ∧ pScrA (93 + 11 * k + o) = false := by decide +kernel
theorem pl_scr {k o j : Nat} (hk : k < 4) (ho : o < 4) : pScr (37 + 11 * k + o) j = false := pScr_of (pl_scrA k hk o ho).1 (by omega) j
theorem pi_scr {k o j : Nat} (hk : k < 4) (ho : o < 4) : pScr (93 + 11 * k + o) j = false := pScr_of (pl_scrA k hk o ho).2 (by omega) j
/-- yes or no -/
def bo (x : Int32) : Prop := x = kI 0 ∨ x = kI 1
/-! what stands on the tape: both sides read it alike -/
theorem f_202_eq (x : Int32) : f_202 x = f_61 x := by
  unfold f_202 f_61 f_42
  simp only [i_lt, i_le, kI_toInt (n := 97) (by decide) (by decide), kI_toInt (n := 122) (by decide) (by decide), kI_toInt (n := 65) (by decide) (by decide), kI_toInt (n := 90) (by decide) (by decide)]
  by_cases h1 : x.toInt < 97
  · by_cases h2 : x.toInt < 65
    · simp [h1, h2, kIz]
    · by_cases h3 : 90 < x.toInt
      · simp [h1, h2, h3, kIz]
      · simp [h1, h2, h3, kIz]
  · by_cases h2 : x.toInt ≤ 122
    · simp [h1, h2, kIz, show ¬ 122 < x.toInt by omega, show ¬ kI 1 = (0 : Int32) by decide]
    · simp [h1, h2, kIz, show 122 < x.toInt by omega, show ¬ x.toInt < 65 by omega, show 90 < x.toInt by omega]
theorem f_203_eq (x : Int32) : f_203 x = f_62 x := rfl
theorem f_204_eq (x : Int32) : f_204 x = f_63 x := by
  unfold f_204 f_63
  simp only [i_lt, i_le, i_eq, kI_toInt (n := 59) (by decide) (by decide), kI_toInt (n := 43) (by decide) (by decide), kI_toInt (n := 45) (by decide) (by decide), kI_toInt (n := 42) (by decide) (by decide), kI_toInt (n := 47) (by decide) (by decide), kI_toInt (n := 40) (by decide) (by decide), kI_toInt (n := 41) (by decide) (by decide), kI_toInt (n := 60) (by decide) (by decide), kI_toInt (n := 61) (by decide) (by decide), kI_toInt (n := 62) (by decide) (by decide)]
  generalize x.toInt = z
  repeat' split
  all_goals first | rfl | (exfalso; omega)
/-- a run of signs -/
def xRun (f : Int32 → Bool) (B : Nat → Int32) (n : Nat) : Nat → Nat → Nat
  | 0, p => p
  | k + 1, p => if p < n ∧ f (B p) = true then xRun f B n k (p + 1) else p
def xEnd (f : Int32 → Bool) (B : Nat → Int32) (n p : Nat) : Nat := xRun f B n (n - p) p
theorem xEnd_eq {f : Int32 → Bool} {B : Nat → Int32} {n p : Nat} : xEnd f B n p = if p < n ∧ f (B p) = true then xEnd f B n (p + 1) else p := by
  unfold xEnd
  by_cases h : p < n
  · rw [show n - p = (n - (p + 1)) + 1 by omega]
    rfl
  · rw [show n - p = 0 by omega, if_neg (fun q => h q.1)]
    rfl
theorem xEnd_le {f : Int32 → Bool} {B : Nat → Int32} {n : Nat} : ∀ {k p : Nat}, n - p = k → p ≤ xEnd f B n p ∧ (p ≤ n → xEnd f B n p ≤ n) := by
  intro k
  induction k with
  | zero =>
    intro p h
    rw [xEnd_eq, if_neg (fun q => by omega)]
    exact ⟨Nat.le_refl _, fun q => q⟩
  | succ k ih =>
    intro p h
    rw [xEnd_eq]
    split
    · have := ih (p := p + 1) (by omega)
      exact ⟨by omega, fun _ => this.2 (by omega)⟩
    · exact ⟨Nat.le_refl _, fun q => q⟩
theorem xEnd_in {f : Int32 → Bool} {B : Nat → Int32} {n : Nat} : ∀ {k p : Nat}, n - p = k → ∀ i, p ≤ i → i < xEnd f B n p → f (B i) = true := by
  intro k
  induction k with
  | zero =>
    intro p h i h1 h2
    rw [xEnd_eq, if_neg (fun q => by omega)] at h2
    omega
  | succ k ih =>
    intro p h i h1 h2
    rw [xEnd_eq] at h2
    split at h2
    · rename_i c
      by_cases e : i = p
      · rw [e]
        exact c.2
      · exact ih (p := p + 1) (by omega) i (by omega) h2
    · omega
theorem xEnd_out {f : Int32 → Bool} {B : Nat → Int32} {n : Nat} : ∀ {k p : Nat}, n - p = k → p ≤ n → xEnd f B n p < n → f (B (xEnd f B n p)) = false := by
  intro k
  induction k with
  | zero =>
    intro p h h1 h2
    rw [xEnd_eq, if_neg (fun q => by omega)] at h2
    omega
  | succ k ih =>
    intro p h h1 h2
    rw [xEnd_eq] at h2 ⊢
    split
    · rename_i c
      rw [if_pos c] at h2
      exact ih (p := p + 1) (by omega) (by omega) h2
    · rename_i c
      rw [if_neg c] at h2
      cases e : f (B p)
      · rfl
      · exact absurd ⟨h2, e⟩ c
def xLt (x : Int32) : Bool := !decide (f_61 x = 0)
def xDg (x : Int32) : Bool := !decide (f_62 x = 0)
def xBl (x : Int32) : Bool := decide (x = kI 32) || decide (x = kI 10)
theorem xLt_t {x : Int32} : xLt x = true ↔ ¬ f_61 x = 0 := by
  unfold xLt
  simp
theorem xDg_t {x : Int32} : xDg x = true ↔ ¬ f_62 x = 0 := by
  unfold xDg
  simp
theorem xLt_rg {x : Int32} (h : xLt x = true) : (97 ≤ x.toInt ∧ x.toInt ≤ 122) ∨ (65 ≤ x.toInt ∧ x.toInt ≤ 90) := by
  rw [xLt_t] at h
  unfold f_61 at h
  split at h
  · rename_i c
    rw [f_42_iff] at c
    simp only [i_le, kI_toInt (n := 97) (by decide) (by decide), kI_toInt (n := 122) (by decide) (by decide)] at c
    exact Or.inl c
  · split at h
    · exact absurd rfl h
    · rename_i c
      replace c := f_42_iff.mp c
      simp only [i_le, kI_toInt (n := 65) (by decide) (by decide), kI_toInt (n := 90) (by decide) (by decide)] at c
      exact Or.inr c
theorem xDg_rg {x : Int32} (h : xDg x = true) : 48 ≤ x.toInt ∧ x.toInt ≤ 57 := by
  rw [xDg_t] at h
  unfold f_62 at h
  rw [f_42_iff] at h
  simp only [i_le, kI_toInt (n := 48) (by decide) (by decide), kI_toInt (n := 57) (by decide) (by decide)] at h
  exact h
/-! words: of the strings, and as they stand in the reference's row -/
def wL (j : Nat) : Nat := (aStr.getD j "").length
def wC (j i : Nat) : Int32 := aChr (aStr.getD j "") i
/-- word j stands from p to e -/
def wM (B : Nat → Int32) (p e j : Nat) : Prop := wL j = e - p ∧ ∀ q, q < wL j → wC j q = B (p + q)
theorem wL_le : ∀ j, j < 29 → wL j ≤ 8 ∧ 1 ≤ wL j := by decide +kernel
theorem f_205_at : ∀ j : Nat, j < 29 → f_205 (kI j) = 90001 + j := by decide +kernel
theorem pSl_at {j : Nat} (h : j < 29) : (pSl (90001 + j)).toInt = wL j := by
  unfold pSl
  rw [show 90001 + j - 90001 = j by omega]
  show (Int32.ofNat (wL j)).toInt = _
  have := wL_le j h
  exact Int32.toInt_ofNat_of_lt (by omega)
theorem pSc_at {j : Nat} {x : Int32} : pSc (90001 + j) x = wC j (ix x) := by
  unfold pSc
  rw [show 90001 + j - 90001 = j by omega]
  rfl
theorem L_201_w {j p e n : Nat} {p2 p3 : Int32} {M0 : pMem} (hj : j < 29) (hp : p2.toInt = p) (hl : wL j = e - p) (he : e ≤ n) (hn : n ≤ 500) (hM : (M0 1 0).toInt = n) {x4 : Int32} {v : Int32} {N : pMem} (h : L_201_3 (90001 + j) p2 p3 x4 M0 v N) {i : Nat} (hx : x4.toInt = i) (hi : i ≤ wL j) :
    N = M0 ∧ ((v = kI 1 ∧ ∀ q, i ≤ q → q < wL j → wC j q = M0 2 (p + q)) ∨ (v = kI 0 ∧ ∃ q, q < wL j ∧ ¬ wC j q = M0 2 (p + q))) := by
  have := wL_le j hj
  refine h (fun x4 M v N => M = M0 → ∀ i : Nat, x4.toInt = i → i ≤ wL j → N = M0 ∧ ((v = kI 1 ∧ ∀ q, i ≤ q → q < wL j → wC j q = M0 2 (p + q)) ∨ (v = kI 0 ∧ ∃ q, q < wL j ∧ ¬ wC j q = M0 2 (p + q)))) ?_ rfl i hx hi
  clear hx hi h
  intro x4 M v N hs hM0 i hx hi
  subst hM0
  rcases hs with ⟨g, hv, hN⟩ | ⟨g, hs⟩
  · rw [i_le, pSl_at hj, hx] at g
    refine ⟨hN, Or.inl ⟨hv, fun q h1 h2 => by omega⟩⟩
  · rw [i_le, pSl_at hj, hx] at g
    have e1 : (p2 + x4).toInt = ((p + i : Nat) : Int) := by
      rw [i_add (by omega) (by omega)]
      omega
    have e2 : f_198 (p2 + x4) M = M 2 (p + i) := by
      unfold f_198
      simp only [i_lt, i_le, e1, hM, kI_toInt (n := 500) (by decide) (by decide), i_0]
      rw [if_neg (by omega), if_neg (by omega), if_neg (by omega), ix_of e1]
    rcases hs with ⟨g2, hs⟩ | ⟨g2, hv, hN⟩
    · rw [pSc_at, e2, ix_of hx] at g2
      have hs : M = M → ∀ i : Nat, (x4 + kI 1).toInt = i → i ≤ wL j → _ := hs
      obtain ⟨r1, r2⟩ := hs rfl (i + 1) (by rw [i_add1 (by omega)]; omega) (by omega)
      refine ⟨r1, ?_⟩
      rcases r2 with ⟨r2, r3⟩ | r2
      · refine Or.inl ⟨r2, fun q h1 h2 => ?_⟩
        by_cases e : q = i
        · rw [e]
          exact g2
        · exact r3 q (by omega) h2
      · exact Or.inr r2
    · rw [pSc_at, e2, ix_of hx] at g2
      exact ⟨hN, Or.inr ⟨hv, i, by omega, g2⟩⟩
theorem D_201_w {j p e n : Nat} {p2 p3 : Int32} {M : pMem} (hj : j < 29) (hp : p2.toInt = p) (h3 : p3.toInt = e) (hpe : p ≤ e) (he : e ≤ n) (hn : n ≤ 500) (hM : (M 1 0).toInt = n) {v : Int32} {N : pMem} (h : D_201 (90001 + j) p2 p3 M v N) : N = M ∧ ((v = kI 1 ∧ wM (M 2) p e j) ∨ (v = kI 0 ∧ ¬ wM (M 2) p e j)) := by
  have hw := wL_le j hj
  have e3 : (p3 - p2).toInt = e - p := by rw [i_sub (by omega) (by omega)]; omega
  rcases h with ⟨g, h⟩ | ⟨g, hv, hN⟩
  · rw [i_eq, pSl_at hj, e3] at g
    have hl : wL j = e - p := by omega
    obtain ⟨r1, r2⟩ := L_201_w hj hp hl he hn hM h (i := 0) rfl (Nat.zero_le _)
    refine ⟨r1, r2.imp (fun r => ⟨r.1, hl, fun q hq => r.2 q (Nat.zero_le _) hq⟩) (fun r => ⟨r.1, fun w => ?_⟩)⟩
    obtain ⟨q, hq, hne⟩ := r.2
    exact hne (w.2 q hq)
  · rw [i_eq, pSl_at hj, e3] at g
    exact ⟨hN, Or.inr ⟨hv, fun w => g (by rw [w.1]; omega)⟩⟩
/-- the first word that stands there -/
def wW (B : Nat → Int32) (p e : Nat) (v : Int32) : Prop := (∃ j : Nat, j < 29 ∧ v = kI j ∧ wM B p e j) ∨ (v = kI 102 ∧ ∀ j, j < 29 → ¬ wM B p e j)
theorem D_200_w {p e n : Nat} {p2 p3 : Int32} {M : pMem} (hp : p2.toInt = p) (h3 : p3.toInt = e) (hpe : p ≤ e) (he : e ≤ n) (hn : n ≤ 500) (hM : (M 1 0).toInt = n) {v : Int32} {N : pMem} (h : D_200 p2 p3 M v N) : N = M ∧ wW (M 2) p e v := by
  refine (h (fun x3 M' v N => M' = M → ∀ i : Nat, x3.toInt = i → i ≤ 29 → (∀ j, j < i → ¬ wM (M 2) p e j) → N = M ∧ wW (M 2) p e v) ?_) rfl 0 rfl (by omega) (fun j hj => by omega)
  intro x3 M' v N hs hM0 i hx hi hno
  subst hM0
  rcases hs with ⟨g, hv, hN⟩ | ⟨g, v1, M1, hD, hs⟩
  · rw [i_lt, kI_toInt (by decide) (by decide), hx] at g
    exact ⟨hN, Or.inr ⟨hv, fun j hj => hno j (by omega)⟩⟩
  · rw [i_lt, kI_toInt (by decide) (by decide), hx] at g
    have ex : x3 = kI i := kI_inj hx
    rw [ex, f_205_at i (by omega)] at hD
    obtain ⟨rfl, r⟩ := D_201_w (by omega) hp h3 hpe he hn hM hD
    rcases hs with ⟨g2, hs⟩ | ⟨g2, hv, hN⟩
    · have hs : M1 = M1 → ∀ i : Nat, (x3 + kI 1).toInt = i → i ≤ 29 → (∀ j, j < i → ¬ wM (M1 2) p e j) → N = M1 ∧ wW (M1 2) p e v := hs
      refine hs rfl (i + 1) (by rw [i_add1 (by omega)]; omega) (by omega) (fun j hj => ?_)
      by_cases e1 : j = i
      · rw [e1]
        rcases r with r | r
        · rw [r.1] at g2
          exact absurd g2 (by decide)
        · exact r.2
      · exact hno j (by omega)
    · rcases r with r | r
      · exact ⟨hN, Or.inl ⟨i, by omega, hv.trans ex, r.2⟩⟩
      · exact absurd r.1 g2
/-! numbers on the tape -/
def xV (B : Nat → Int32) (p : Nat) : Nat → Int32
  | 0 => kI 0
  | k + 1 => ((xV B p k * kI 10) + B (p + k)) - kI 48
theorem f_198_at {M : pMem} {x : Int32} {p n : Nat} (hx : x.toInt = p) (hp : p < n) (hn : n ≤ 500) (hM : (M 1 0).toInt = n) : f_198 x M = M 2 p := by
  unfold f_198
  simp only [i_lt, i_le, hx, hM, kI_toInt (n := 500) (by decide) (by decide), i_0]
  rw [if_neg (by omega), if_neg (by omega), if_neg (by omega), ix_of hx]
theorem D_199_w {p e n : Nat} {p2 p3 : Int32} {M : pMem} (hp : p2.toInt = p) (h3 : p3.toInt = e) (hpe : p ≤ e) (he : e ≤ n) (hn : n ≤ 500) (hM : (M 1 0).toInt = n) {v : Int32} {N : pMem} (h : D_199 p2 p3 M v N) : N = M ∧ v = xV (M 2) p (e - p) := by
  refine (h (fun x3 x4 M' v N => M' = M → ∀ i : Nat, x4.toInt = i → p ≤ i → i ≤ e → x3 = xV (M 2) p (i - p) → N = M ∧ v = xV (M 2) p (e - p)) ?_) rfl p hp (Nat.le_refl _) hpe (by rw [Nat.sub_self]; rfl)
  intro x3 x4 M' v N hs hM0 i hx h1 h2 hv3
  subst hM0
  rcases hs with ⟨g, hv, hN⟩ | ⟨g, hs⟩
  · rw [i_le, h3, hx] at g
    refine ⟨hN, ?_⟩
    rw [hv, hv3, show i = e by omega]
  · rw [i_le, h3, hx] at g
    rw [f_198_at hx (by omega) hn hM] at hs
    have hs : M' = M' → ∀ i : Nat, (x4 + kI 1).toInt = i → p ≤ i → i ≤ e → _ := hs
    refine hs rfl (i + 1) (by rw [i_add1 (by omega)]; omega) (by omega) (by omega) ?_
    rw [show i + 1 - p = (i - p) + 1 by omega, hv3]
    show _ = xV (M' 2) p (i - p) * kI 10 + M' 2 (p + (i - p)) - kI 48
    rw [show p + (i - p) = i by omega]
theorem xV_rg {B : Nat → Int32} {p : Nat} : ∀ {k : Nat}, (∀ i, i < k → xDg (B (p + i)) = true) → k ≤ 4 → 0 ≤ (xV B p k).toInt ∧ (xV B p k).toInt < 10 ^ k := by
  intro k
  induction k with
  | zero => intro _ _; exact ⟨by show (0 : Int) ≤ (kI 0).toInt; decide, by show (kI 0).toInt < 10 ^ 0; decide⟩
  | succ k ih =>
    intro h1 h2
    obtain ⟨r1, r2⟩ := ih (fun i hi => h1 i (by omega)) (by omega)
    have d := xDg_rg (h1 k (by omega))
    have b : (10 : Int) ^ k ≤ 1000 := by
      have : k = 0 ∨ k = 1 ∨ k = 2 ∨ k = 3 := by omega
      rcases this with rfl | rfl | rfl | rfl <;> decide
    have e10 : (kI 10).toInt = 10 := rfl
    have e48 : (kI 48).toInt = 48 := rfl
    have m1 : (xV B p k * kI 10).toInt = (xV B p k).toInt * 10 := by rw [i_mul (by rw [e10]; omega) (by rw [e10]; omega), e10]
    have m2 : (xV B p k * kI 10 + B (p + k)).toInt = (xV B p k).toInt * 10 + (B (p + k)).toInt := by rw [i_add (by rw [m1]; omega) (by rw [m1]; omega), m1]
    have m3 : (xV B p (k + 1)).toInt = (xV B p k).toInt * 10 + (B (p + k)).toInt - 48 := by
      show (xV B p k * kI 10 + B (p + k) - kI 48).toInt = _
      rw [i_sub (by rw [m2, e48]; omega) (by rw [m2, e48]; omega), m2, e48]
    rw [m3]
    have e : (10 : Int) ^ (k + 1) = 10 ^ k * 10 := rfl
    rw [e]
    omega
/-! the tokens -/
def wB (B : Nat → Int32) (p e j : Nat) : Bool := decide (wL j = e - p) && (List.range (wL j)).all fun q => decide (wC j q = B (p + q))
theorem wB_t {B : Nat → Int32} {p e j : Nat} : wB B p e j = true ↔ wM B p e j := by
  unfold wB wM
  simp [List.all_eq_true]
def xWd (B : Nat → Int32) (p e : Nat) : Int32 := match (List.range 29).find? (wB B p e) with
  | some j => kI j
  | none => kI 102
theorem w_one : ∀ j, j < 29 → ∀ i, i < 29 → wL j = wL i → (∀ q, q < wL j → wC j q = wC i q) → j = i := by decide +kernel
theorem wM_one {B : Nat → Int32} {p e j i : Nat} (hj : j < 29) (hi : i < 29) (h1 : wM B p e j) (h2 : wM B p e i) : j = i :=
  w_one j hj i hi (h1.1.trans h2.1.symm) (fun q hq => (h1.2 q hq).trans (h2.2 q (by rw [h2.1, ← h1.1]; exact hq)).symm)
theorem xWd_some {B : Nat → Int32} {p e j : Nat} (hj : j < 29) (h : wM B p e j) : xWd B p e = kI j := by
  unfold xWd
  cases c : (List.range 29).find? (wB B p e) with
  | none =>
    have := List.find?_eq_none.mp c j (List.mem_range.mpr hj)
    exact absurd (wB_t.mpr h) this
  | some i =>
    have h1 := List.find?_some c
    have h2 := List.mem_range.mp (List.mem_of_find?_eq_some c)
    rw [wM_one h2 hj (wB_t.mp h1) h]
theorem xWd_none {B : Nat → Int32} {p e : Nat} (h : ∀ j, j < 29 → ¬ wM B p e j) : xWd B p e = kI 102 := by
  unfold xWd
  cases c : (List.range 29).find? (wB B p e) with
  | none => rfl
  | some i =>
    have h1 := List.find?_some c
    have h2 := List.mem_range.mp (List.mem_of_find?_eq_some c)
    exact absurd (wB_t.mp h1) (h i h2)
theorem wW_e {B : Nat → Int32} {p e : Nat} {v : Int32} (h : wW B p e v) : v = xWd B p e := by
  rcases h with ⟨j, hj, rfl, h⟩ | ⟨rfl, h⟩
  · exact (xWd_some hj h).symm
  · exact (xWd_none h).symm
def xNx (B : Nat → Int32) (n p : Nat) : Nat := if xLt (B p) then xEnd xLt B n (p + 1) else if xDg (B p) then xEnd xDg B n (p + 1) else p + 1
def xTk (B : Nat → Int32) (n p : Nat) : Int32 := if xLt (B p) then xWd B p (xEnd xLt B n (p + 1)) else if xDg (B p) then (if xEnd xDg B n (p + 1) - p ≤ 4 then kI 100 else kI 102) else if f_63 (B p) = 0 then kI 102 else B p
def xVl (B : Nat → Int32) (n p : Nat) : Int32 := if xLt (B p) then kI 0 else if xDg (B p) then xV B p (xEnd xDg B n (p + 1) - p) else kI 0
theorem xNx_rg {B : Nat → Int32} {n p : Nat} (h : p < n) : p < xNx B n p ∧ xNx B n p ≤ n := by
  unfold xNx
  have a := xEnd_le (f := xLt) (B := B) (n := n) (p := p + 1) rfl
  have b := xEnd_le (f := xDg) (B := B) (n := n) (p := p + 1) rfl
  split
  · exact ⟨by omega, a.2 (by omega)⟩
  · split
    · exact ⟨by omega, b.2 (by omega)⟩
    · omega
def xSk (B : Nat → Int32) (n p : Nat) : Nat := xEnd xBl B n p
def xSt (B : Nat → Int32) (n : Nat) : Nat → Nat
  | 0 => xSk B n 0
  | k + 1 => if xSt B n k < n then xSk B n (xNx B n (xSt B n k)) else n
theorem xSk_le {B : Nat → Int32} {n p : Nat} (h : p ≤ n) : p ≤ xSk B n p ∧ xSk B n p ≤ n := by
  have := xEnd_le (f := xBl) (B := B) (n := n) (p := p) rfl
  exact ⟨this.1, this.2 h⟩
theorem xSk_n {B : Nat → Int32} {n : Nat} : xSk B n n = n := by
  unfold xSk
  rw [xEnd_eq, if_neg (fun q => Nat.lt_irrefl _ q.1)]
theorem xSk_bl {B : Nat → Int32} {n p : Nat} (h : p < n) (hb : xBl (B p) = true) : xSk B n p = xSk B n (p + 1) := by
  unfold xSk
  rw [xEnd_eq, if_pos ⟨h, hb⟩]
theorem xSk_no {B : Nat → Int32} {n p : Nat} (hb : xBl (B p) = false) : xSk B n p = p := by
  unfold xSk
  rw [xEnd_eq, if_neg (fun q => by rw [hb] at q; cases q.2)]
theorem xSk_out {B : Nat → Int32} {n p : Nat} (h : p ≤ n) (h2 : xSk B n p < n) : xBl (B (xSk B n p)) = false := xEnd_out rfl h h2
theorem xSt_le {B : Nat → Int32} {n : Nat} : ∀ k, xSt B n k ≤ n := by
  intro k
  induction k with
  | zero => exact (xSk_le (Nat.zero_le _)).2
  | succ k ih =>
    unfold xSt
    split
    · rename_i c
      exact (xSk_le (xNx_rg c).2).2
    · exact Nat.le_refl _
theorem xBl_no {x : Int32} (h : xBl x = true) : xLt x = false ∧ xDg x = false := by
  have e : x.toInt = 32 ∨ x.toInt = 10 := by
    unfold xBl at h
    simp only [Bool.or_eq_true, decide_eq_true_eq] at h
    rcases h with rfl | rfl
    · exact Or.inl rfl
    · exact Or.inr rfl
  constructor
  · cases c : xLt x
    · rfl
    · have := xLt_rg c
      omega
  · cases c : xDg x
    · rfl
    · have := xDg_rg c
      omega
def xPut (M : pMem) (c : Nat) (t pl v : Int32) : pMem := aPut (aPut (aPut (aPut M 3 c t) 4 c pl) 5 c v) 1 1 (kI (c + 1 : Nat))
theorem D_197_w {p1 p2 p3 : Int32} {M : pMem} {c : Nat} (hc : (M 1 1).toInt = c) (h5 : c < 500) {v : Unit} {N : pMem} (h : D_197 p1 p2 p3 M v N) : N = xPut M c p1 p2 p3 := by
  rcases h with ⟨g, _⟩ | ⟨g, h⟩
  · rw [i_lt, hc, i_0] at g
    omega
  · rcases h with ⟨g2, _⟩ | ⟨g2, h⟩
    · rw [i_le, hc, kI_toInt (by decide) (by decide)] at g2
      omega
    · obtain ⟨_, M1, e1, _, M2, e2, _, M3, e3, M4, e4, _, rfl⟩ := h
      have a1 : M1 1 1 = M 1 1 := by rw [e1]; exact aPut_cell (by decide)
      have a2 : M2 1 1 = M 1 1 := by rw [e2, aPut_cell (by decide)]; exact a1
      have a3 : M3 1 1 = M 1 1 := by rw [e3, aPut_cell (by decide)]; exact a2
      rw [e4, e3, e2, e1, ix_of hc]
      rw [show M3 1 1 = M 1 1 from a3] at e4
      rw [show aPut M 3 c p1 1 1 = M 1 1 from aPut_cell (by decide)]
      rw [show aPut (aPut M 3 c p1) 4 (ix (M 1 1)) p2 1 1 = M 1 1 from (aPut_cell (by decide)).trans (aPut_cell (by decide))]
      rw [show aPut (aPut (aPut M 3 c p1) 4 (ix (M 1 1)) p2) 5 (ix (M 1 1)) p3 1 1 = M 1 1 from (aPut_cell (by decide)).trans ((aPut_cell (by decide)).trans (aPut_cell (by decide)))]
      rw [ix_of hc]
      unfold xPut
      rw [show M 1 1 + kI 1 = kI (c + 1 : Nat) from kI_inj (by rw [i_add1 (by omega), hc]; omega)]
theorem xPut_old {M : pMem} {c : Nat} {t pl v : Int32} {a j : Nat} (h1 : ¬ (a = 1 ∧ j = 1)) (h3 : ¬ ((a = 3 ∨ a = 4 ∨ a = 5) ∧ j = c)) : xPut M c t pl v a j = M a j := by
  unfold xPut aPut
  by_cases e1 : a = 1
  · subst e1
    simp [show ¬ j = 1 from fun q => h1 ⟨rfl, q⟩]
  · by_cases e3 : j = c
    · simp [e1, show ¬ a = 3 from fun q => h3 ⟨Or.inl q, e3⟩, show ¬ a = 4 from fun q => h3 ⟨Or.inr (Or.inl q), e3⟩, show ¬ a = 5 from fun q => h3 ⟨Or.inr (Or.inr q), e3⟩]
    · simp [e1, e3]
theorem xPut_new {M : pMem} {c : Nat} {t pl v : Int32} : xPut M c t pl v 1 1 = kI (c + 1 : Nat) ∧ xPut M c t pl v 3 c = t ∧ xPut M c t pl v 4 c = pl ∧ xPut M c t pl v 5 c = v := by
  unfold xPut aPut
  simp
/-- what findToken does at a place -/
def xOne (M : pMem) (n p c : Nat) (N : pMem) : Prop := if xBl (M 2 p) = true then N = M else N = xPut M c (xTk (M 2) n p) (kI p) (xVl (M 2) n p)
theorem D_196_w {p n c : Nat} {p1 : Int32} {M : pMem} (hp : p1.toInt = p) (hn : n ≤ 500) (hpn : p < n) (hM : (M 1 0).toInt = n) (hc : (M 1 1).toInt = c) (h5 : c < 500) {v : Int32} {N : pMem} (h : D_196 p1 M v N) : v.toInt = xNx (M 2) n p ∧ xOne M n p c N := by
  have es : f_198 p1 M = M 2 p := f_198_at hp hpn hn hM
  have ep : p1 = kI p := kI_inj hp
  -- letters behind
  have hL : ∀ (x3 : Int32) (v : Int32) (N : pMem), L_196_1 p1 x3 M v N → ∀ i : Nat, x3.toInt = i → p < i → i ≤ n → v.toInt = xEnd xLt (M 2) n i ∧ N = xPut M c (xWd (M 2) p (xEnd xLt (M 2) n i)) (kI p) (kI 0) := by
    intro x3 v N h
    refine (h (fun x3 M' v N => M' = M → ∀ i : Nat, x3.toInt = i → p < i → i ≤ n → v.toInt = xEnd xLt (M 2) n i ∧ N = xPut M c (xWd (M 2) p (xEnd xLt (M 2) n i)) (kI p) (kI 0), fun x3 M' v N => True) ⟨?_, fun _ _ _ _ _ => trivial⟩) rfl
    intro x3 M' v N hs hM0 i hx h1 h2
    subst hM0
    have fin : ∀ (h : (tCall (D_200 p1 x3 M') fun v1 M1 => tCall (D_197 v1 p1 (kI 0) M1) fun _ M2 => tRet x3 M2) v N), xEnd xLt (M' 2) n i = i → v.toInt = xEnd xLt (M' 2) n i ∧ N = xPut M' c (xWd (M' 2) p (xEnd xLt (M' 2) n i)) (kI p) (kI 0) := by
      intro h e
      obtain ⟨v1, M1, hD, _, M2, hP, hv, hN⟩ := h
      obtain ⟨rfl, w⟩ := D_200_w hp hx (by omega) h2 hn hM hD
      rw [e, hv, hN, D_197_w hc h5 hP, wW_e w, ep]
      exact ⟨hx, rfl⟩
    rcases hs with ⟨g, hs⟩ | ⟨g, hs⟩
    · rw [i_le, hM, hx] at g
      exact fin hs (by rw [xEnd_eq, if_neg (fun q => by omega)])
    · rw [i_le, hM, hx] at g
      rcases hs with ⟨g2, hs⟩ | ⟨g2, hs⟩
      · rw [f_198_at hx (by omega) hn hM, f_202_eq] at g2
        exact fin hs (by rw [xEnd_eq, if_neg (fun q => xLt_t.mp q.2 g2)])
      · rw [f_198_at hx (by omega) hn hM, f_202_eq] at g2
        have hs : M' = M' → ∀ i : Nat, (x3 + kI 1).toInt = i → p < i → i ≤ n → _ := hs
        have := hs rfl (i + 1) (by rw [i_add1 (by omega)]; omega) (by omega) (by omega)
        rw [xEnd_eq, if_pos ⟨by omega, xLt_t.mpr g2⟩]
        exact this
  have hD : ∀ (x3 : Int32) (v : Int32) (N : pMem), L_196_6 p1 x3 M v N → ∀ i : Nat, x3.toInt = i → p < i → i ≤ n → v.toInt = xEnd xDg (M 2) n i ∧ N = xPut M c (if xEnd xDg (M 2) n i - p ≤ 4 then kI 100 else kI 102) (kI p) (xV (M 2) p (xEnd xDg (M 2) n i - p)) := by
    intro x3 v N h
    refine (h (fun x3 M' v N => True, fun x3 M' v N => M' = M → ∀ i : Nat, x3.toInt = i → p < i → i ≤ n → v.toInt = xEnd xDg (M 2) n i ∧ N = xPut M c (if xEnd xDg (M 2) n i - p ≤ 4 then kI 100 else kI 102) (kI p) (xV (M 2) p (xEnd xDg (M 2) n i - p))) ⟨fun _ _ _ _ _ => trivial, ?_⟩) rfl
    intro x3 M' v N hs hM0 i hx h1 h2
    subst hM0
    have fin : ∀ (h : (tIf ((kI 4) < (x3 - p1)) (tCall (D_199 p1 x3 M') fun v1 M1 => tCall (D_197 (kI 102) p1 v1 M1) fun _ M2 => tRet x3 M2) (tCall (D_199 p1 x3 M') fun v1 M1 => tCall (D_197 (kI 100) p1 v1 M1) fun _ M2 => tRet x3 M2)) v N), xEnd xDg (M' 2) n i = i → v.toInt = xEnd xDg (M' 2) n i ∧ N = xPut M' c (if xEnd xDg (M' 2) n i - p ≤ 4 then kI 100 else kI 102) (kI p) (xV (M' 2) p (xEnd xDg (M' 2) n i - p)) := by
      intro h e
      have e4 : (x3 - p1).toInt = i - p := by rw [i_sub (by omega) (by omega), hx, hp]
      rcases h with ⟨g, v1, M1, hD, _, M2, hP, hv, hN⟩ | ⟨g, v1, M1, hD, _, M2, hP, hv, hN⟩
      · rw [i_lt, e4, kI_toInt (by decide) (by decide)] at g
        obtain ⟨rfl, w⟩ := D_199_w hp hx (by omega) h2 hn hM hD
        rw [e, hv, hN, D_197_w hc h5 hP, w, ep, if_neg (by omega)]
        exact ⟨hx, rfl⟩
      · rw [i_lt, e4, kI_toInt (by decide) (by decide)] at g
        obtain ⟨rfl, w⟩ := D_199_w hp hx (by omega) h2 hn hM hD
        rw [e, hv, hN, D_197_w hc h5 hP, w, ep, if_pos (by omega)]
        exact ⟨hx, rfl⟩
    rcases hs with ⟨g, hs⟩ | ⟨g, hs⟩
    · rw [i_le, hM, hx] at g
      exact fin hs (by rw [xEnd_eq, if_neg (fun q => by omega)])
    · rw [i_le, hM, hx] at g
      rcases hs with ⟨g2, hs⟩ | ⟨g2, hs⟩
      · rw [f_198_at hx (by omega) hn hM, f_203_eq] at g2
        exact fin hs (by rw [xEnd_eq, if_neg (fun q => xDg_t.mp q.2 g2)])
      · rw [f_198_at hx (by omega) hn hM, f_203_eq] at g2
        have hs : M' = M' → ∀ i : Nat, (x3 + kI 1).toInt = i → p < i → i ≤ n → _ := hs
        have := hs rfl (i + 1) (by rw [i_add1 (by omega)]; omega) (by omega) (by omega)
        rw [xEnd_eq, if_pos ⟨by omega, xDg_t.mpr g2⟩]
        exact this
  have ep1 : (p1 + kI 1).toInt = ((p + 1 : Nat) : Int) := by rw [i_add1 (by omega)]; omega
  unfold xOne xNx xTk xVl
  rcases h with ⟨g, h⟩ | ⟨g, h⟩
  · rw [es, f_202_eq] at g
    have nl : xLt (M 2 p) = false := by cases c : xLt (M 2 p) with | false => rfl | true => exact absurd g (xLt_t.mp c)
    rcases h with ⟨g2, h⟩ | ⟨g2, h⟩
    · rw [es, f_203_eq] at g2
      have nd : xDg (M 2 p) = false := by cases c : xDg (M 2 p) with | false => rfl | true => exact absurd g2 (xDg_t.mp c)
      rw [nl, nd]
      simp only [Bool.false_eq_true, if_false]
      rcases h with ⟨g3, hv, hN⟩ | ⟨g3, h⟩
      · rw [es] at g3
        rw [if_pos (by unfold xBl; rw [g3]; rfl), hv]
        exact ⟨ep1, hN⟩
      · rw [es] at g3
        rcases h with ⟨g4, hv, hN⟩ | ⟨g4, h⟩
        · rw [es] at g4
          rw [if_pos (by unfold xBl; rw [g4]; rfl), hv]
          exact ⟨ep1, hN⟩
        · rw [es] at g4
          rw [if_neg (by unfold xBl; simp [g3, g4])]
          rcases h with ⟨g5, _, M1, hP, hv, hN⟩ | ⟨g5, _, M1, hP, hv, hN⟩
          · rw [es, f_204_eq] at g5
            rw [if_pos g5, hv, hN, D_197_w hc h5 hP, ep]
            exact ⟨by rw [← ep]; exact ep1, rfl⟩
          · rw [es, f_204_eq] at g5
            rw [if_neg g5, hv, hN, D_197_w hc h5 hP, es, ep]
            exact ⟨by rw [← ep]; exact ep1, rfl⟩
    · rw [es, f_203_eq] at g2
      have d : xDg (M 2 p) = true := xDg_t.mpr g2
      have := hD _ _ _ h (p + 1) ep1 (by omega) (by omega)
      have nb : ¬ xBl (M 2 p) = true := fun q => by rw [(xBl_no q).2] at d; cases d
      rw [nl, d, if_neg nb]
      simp only [Bool.false_eq_true, eq_self, reduceIte]
      exact this
  · rw [es, f_202_eq] at g
    have l : xLt (M 2 p) = true := xLt_t.mpr g
    have := hL _ _ _ h (p + 1) ep1 (by omega) (by omega)
    have nb : ¬ xBl (M 2 p) = true := fun q => by rw [(xBl_no q).1] at l; cases l
    rw [l, if_neg nb]
    simp only [eq_self, reduceIte]
    exact this
/-- the tokens up to the c-th -/
def xToks (M : pMem) (B : Nat → Int32) (n c : Nat) : Prop := (M 1 1).toInt = c ∧ ∀ k, k < c → xSt B n k < n ∧ M 3 k = xTk B n (xSt B n k) ∧ M 4 k = kI (xSt B n k) ∧ M 5 k = xVl B n (xSt B n k)
theorem D_195_w {n : Nat} {M : pMem} (hn : n ≤ 500) (hM : (M 1 0).toInt = n) {v : Unit} {N : pMem} (h : D_195 M v N) : ∃ c, c ≤ n ∧ xSt (M 2) n c = n ∧ xToks N (M 2) n c := by
  obtain ⟨M1, e1, h⟩ := h
  have b1 : M1 2 = M 2 := by rw [e1]; funext i; exact aPut_cell (by decide)
  have b2 : (M1 1 0).toInt = n := by rw [e1, aPut_at (by decide)]; exact hM
  have b3 : M1 1 1 = kI 0 := by rw [e1]; exact aPut_same
  refine (h (fun x1 x2 M' v N => ∀ p i c : Nat, x1.toInt = p → x2.toInt = i → p ≤ n → i ≤ p → c ≤ p → M' 2 = M 2 → (M' 1 0).toInt = n → xToks M' (M 2) n c → xSt (M 2) n c = xSk (M 2) n p → ∃ c, c ≤ n ∧ xSt (M 2) n c = n ∧ xToks N (M 2) n c) ?_) 0 0 0 rfl rfl (by omega) (by omega) (by omega) b1 b2 ⟨by rw [b3]; rfl, fun k hk => by omega⟩ rfl
  intro x1 x2 M' v N hs p i c hx1 hx2 hpn hip hcp hB hlen ht hst
  have fin : N = M' → p = n → ∃ c, c ≤ n ∧ xSt (M 2) n c = n ∧ xToks N (M 2) n c := by
    rintro rfl rfl
    exact ⟨c, hcp, by rw [hst, xSk_n], ht⟩
  rcases hs with ⟨g, _, hN⟩ | ⟨g, hs⟩
  · rw [i_le, hx2, kI_toInt (by decide) (by decide)] at g
    exact fin hN (by omega)
  · rw [i_le, hx2, kI_toInt (by decide) (by decide)] at g
    rcases hs with ⟨g2, _, hN⟩ | ⟨g2, v1, M2, hD, hs⟩
    · rw [i_le, hlen, hx1] at g2
      exact fin hN (by omega)
    · rw [i_le, hlen, hx1] at g2
      obtain ⟨d1, d2⟩ := D_196_w hx1 hn (by omega) hlen ht.1 (by omega) hD
      rw [hB] at d1
      have nx := xNx_rg (B := M 2) (n := n) (p := p) (by omega)
      unfold xOne at d2
      rw [hB] at d2
      have ei : (x2 + kI 1).toInt = ((i + 1 : Nat) : Int) := by rw [i_add1 (by omega)]; omega
      by_cases cb : xBl (M 2 p) = true
      · rw [if_pos cb] at d2
        subst d2
        have e2 : xNx (M 2) n p = p + 1 := by
          unfold xNx
          rw [(xBl_no cb).1, (xBl_no cb).2]
          rfl
        rw [e2] at d1
        exact hs (p + 1) (i + 1) c d1 ei (by omega) (by omega) (by omega) hB hlen ht (by rw [hst, xSk_bl (by omega) cb])
      · rw [if_neg cb] at d2
        have cb : xBl (M 2 p) = false := by cases q : xBl (M 2 p) with | false => rfl | true => exact absurd q cb
        have es : xSt (M 2) n c = p := by rw [hst, xSk_no cb]
        refine hs (xNx (M 2) n p) (i + 1) (c + 1) d1 ei (by omega) (by omega) (by omega) ?_ ?_ ?_ ?_
        · rw [d2]
          funext q
          rw [xPut_old (by omega) (by omega)]
          exact congrFun hB q
        · rw [d2, xPut_old (by omega) (by omega)]
          exact hlen
        · obtain ⟨n1, n3, n4, n5⟩ := xPut_new (M := M') (c := c) (t := xTk (M 2) n p) (pl := kI p) (v := xVl (M 2) n p)
          refine ⟨by rw [d2, n1, kI_toInt (by omega) (by omega)], fun k hk => ?_⟩
          by_cases ek : k = c
          · subst ek
            rw [d2, n3, n4, n5, es]
            exact ⟨by omega, rfl, rfl, rfl⟩
          · obtain ⟨t1, t2, t3, t4⟩ := ht.2 k (by omega)
            rw [d2, xPut_old (by omega) (by omega), xPut_old (by omega) (by omega), xPut_old (by omega) (by omega)]
            exact ⟨t1, t2, t3, t4⟩
        · show (if xSt (M 2) n c < n then xSk (M 2) n (xNx (M 2) n (xSt (M 2) n c)) else n) = _
          rw [es, if_pos (by omega)]
/-! the reference's side of the tape -/
def xWd0 : List Int := [32, 97, 100, 100, 32, 102, 105, 103, 104, 116, 32, 104, 111, 109, 101, 32, 110, 97, 109, 101, 32, 115, 101, 101, 32, 115, 108, 105, 112, 32, 97, 112, 97, 114, 116, 32, 97, 103, 97, 105, 110, 115, 116, 32, 98, 101, 115, 105, 100, 101, 32, 116, 111, 103, 101, 116, 104, 101, 114, 32, 115, 116, 105, 114, 32, 119, 104, 101, 110, 32, 111, 114, 32, 97, 110, 100, 32, 110, 111, 116, 32, 107, 105, 110, 100, 32, 112, 114, 105, 122, 101, 32, 100, 97, 121, 32, 115, 97, 109, 101, 32, 107, 110, 101, 119, 32, 119, 111, 110, 32, 108, 111, 115, 116, 32, 119, 114, 111, 110, 103, 101, 100, 32, 108, 105, 107, 101, 32, 98, 97, 99, 107, 32, 115, 116, 114, 111, 110, 103, 32, 111, 119, 110, 32, 97, 99, 114, 111, 115, 115, 32, 115, 105, 122, 101, 32]
def xWs (W : Nat → Int32) : Prop := ∀ j, j < 156 → W j = kI (xWd0.getD j 0)
/-- where its words stand; which of the strings each is -/
def xRp (r : Nat) : Nat := [0, 4, 10, 15, 20, 24, 29, 35, 43, 50, 59, 64, 69, 72, 76, 80, 85, 91, 95, 100, 105, 109, 114, 122, 127, 132, 139, 143, 150, 155].getD r 155
def xCw (r : Nat) : Nat := [14, 15, 16, 17, 18, 19, 24, 25, 26, 27, 28, 20, 21, 22, 23, 0, 1, 2, 3, 4, 5, 6, 7, 8, 9, 10, 11, 12, 13].getD r 29
def xRw (j : Nat) : Nat := [15, 16, 17, 18, 19, 20, 21, 22, 23, 24, 25, 26, 27, 28, 0, 1, 2, 3, 4, 5, 11, 12, 13, 14, 6, 7, 8, 9, 10].getD j 29
theorem xCw_lt : ∀ r, r < 29 → xCw r < 29 ∧ xRw (xCw r) = r := by decide
theorem xRw_lt : ∀ j, j < 29 → xRw j < 29 ∧ xCw (xRw j) = j := by decide
theorem xRp_ck : ∀ r, r < 29 → xRp (r + 1) = xRp r + wL (xCw r) + 1 ∧ xRp (r + 1) ≤ 155 ∧ xWd0.getD (xRp (r + 1)) 0 = 32 ∧ ∀ q, q < wL (xCw r) → kI (xWd0.getD (xRp r + 1 + q) 0) = wC (xCw r) q ∧ ¬ xWd0.getD (xRp r + 1 + q) 0 = 32 := by decide +kernel
theorem xWd_rg : ∀ j, j < 156 → 0 ≤ xWd0.getD j 0 ∧ xWd0.getD j 0 ≤ 127 := by decide +kernel
theorem xWs_32 {W : Nat → Int32} (hW : xWs W) {j : Nat} (hj : j < 156) : W j = kI 32 ↔ xWd0.getD j 0 = 32 := by
  have := xWd_rg j hj
  rw [hW j hj, i_eq, kI_toInt (by omega) (by omega), kI_toInt (by decide) (by decide)]
/-- the word that wordAt finds -/
def wR (B : Nat → Int32) (a b : Nat) (v : Int32) (r0 : Nat) : Prop := (∃ r, r0 ≤ r ∧ r < 29 ∧ v = kI r ∧ wM B a b (xCw r)) ∨ (v = kI (-1) ∧ ∀ r, r0 ≤ r → r < 29 → ¬ wM B a b (xCw r))
theorem D_64_w {a b : Nat} {p1 p2 : Int32} {M0 : pMem} (ha : p1.toInt = a) (hb : p2.toInt = b) (hab : a < b) (h5 : b ≤ 500) (hW : xWs (M0 203)) (hl : ∀ i, a ≤ i → i < b → xLt (M0 202 i) = true) {v : Int32} {N : pMem} (h : D_64 p1 p2 M0 v N) : N = M0 ∧ wR (M0 202) a b v 0 := by
  have no32 : ∀ i, a ≤ i → i < b → ¬ M0 202 i = kI 32 := by
    intro i h1 h2 e
    have := xLt_rg (hl i h1 h2)
    rw [e, kI_toInt (by decide) (by decide)] at this
    omega
  refine (h (fun x3 x4 M v N => M = M0 → ∀ r : Nat, x3.toInt = r - 1 → r ≤ 29 → x4.toInt = xRp r → N = M0 ∧ wR (M0 202) a b v r,
    fun x3 x4 x5 M v N => M = M0 → ∀ r i : Nat, x3.toInt = r → r < 29 → x4.toInt = xRp r → x5.toInt = i → a + i ≤ b → i ≤ wL (xCw r) → (∀ q, q < i → wC (xCw r) q = M0 202 (a + q)) → N = M0 ∧ wR (M0 202) a b v r,
    fun x3 x4 M v N => M = M0 → ∀ r t : Nat, x3.toInt = r → r < 29 → x4.toInt = t → xRp r < t → t ≤ xRp (r + 1) → ¬ wM (M0 202) a b (xCw r) → N = M0 ∧ wR (M0 202) a b v r) ?_) rfl 0 rfl (by omega) rfl
  refine ⟨?_, ?_, ?_⟩
  · intro x3 x4 M v N hs hM r hx3 hr hx4
    subst hM
    rcases hs with ⟨g, hv, hN⟩ | ⟨g, hs⟩
    · rw [i_le, hx4, kI_toInt (by decide) (by decide)] at g
      refine ⟨hN, Or.inr ⟨hv, fun r' h1 h2 => ?_⟩⟩
      have c := xRp_ck r (by omega)
      exfalso
      omega
    · rw [i_le, hx4, kI_toInt (by decide) (by decide)] at g
      have hr29 : r < 29 := by
        by_cases e : r = 29
        · subst e
          exact absurd (show (155 : Int) ≤ ((xRp 29 : Nat) : Int) by decide) g
        · omega
      exact hs rfl r 0 (by rw [i_add1 (by omega)]; omega) hr29 hx4 rfl (by omega) (Nat.zero_le _) (fun q hq => by omega)
  · intro x3 x4 x5 M v N hs hM r i hx3 hr hx4 hx5 hib hil hpre
    subst hM
    obtain ⟨c1, c2, c3, c4⟩ := xRp_ck r hr
    have e1 : (p1 + x5).toInt = ((a + i : Nat) : Int) := by rw [i_add (by omega) (by omega)]; omega
    have e2 : (x4 + kI 1).toInt = ((xRp r + 1 : Nat) : Int) := by rw [i_add1 (by omega)]; omega
    have e3 : (x4 + kI 1 + x5).toInt = ((xRp r + 1 + i : Nat) : Int) := by rw [i_add (by omega) (by omega)]; omega
    -- not this word
    have next : ¬ wM (M 202) a b (xCw r) → (M = M → ∀ r t : Nat, x3.toInt = r → r < 29 → (x4 + kI 1).toInt = t → xRp r < t → t ≤ xRp (r + 1) → ¬ wM (M 202) a b (xCw r) → N = M ∧ wR (M 202) a b v r) → N = M ∧ wR (M 202) a b v r :=
      fun hn k => k rfl r (xRp r + 1) hx3 hr e2 (by omega) (by omega) hn
    rcases hs with ⟨g, hs⟩ | ⟨g, hs⟩
    · rw [i_le, hb, e1] at g
      rcases hs with ⟨g2, hs⟩ | ⟨g2, _, hs⟩
      · rw [i_eq, e1, hb] at g2
        omega
      · rcases hs with ⟨g3, hs⟩ | ⟨g3, hv, hN⟩
        · rw [ix_of e3, xWs_32 hW (by omega)] at g3
          refine next (fun w => ?_) hs
          have : i = wL (xCw r) := by have := w.1; omega
          apply g3
          rw [this, show xRp r + 1 + wL (xCw r) = xRp (r + 1) by omega]
          exact c3
        · rw [ix_of e3, xWs_32 hW (by omega)] at g3
          have ei : i = wL (xCw r) := by
            by_cases e : i < wL (xCw r)
            · exact absurd (Classical.not_not.mp g3) (c4 i e).2
            · omega
          refine ⟨hN, Or.inl ⟨r, Nat.le_refl _, hr, hv.trans (kI_inj hx3), by omega, fun q hq => hpre q (by omega)⟩⟩
    · rw [i_le, hb, e1] at g
      obtain ⟨_, _, hs⟩ := hs
      rcases hs with ⟨g2, hs⟩ | ⟨g2, hs⟩
      · rw [ix_of e3, ix_of e1, hW _ (by omega)] at g2
        have nw : ¬ wM (M 202) a b (xCw r) := fun w => by
          by_cases e : i < wL (xCw r)
          · exact g2 ((c4 i e).1.trans (w.2 i e))
          · have := w.1
            omega
        rcases hs with ⟨g3, hs⟩ | ⟨g3, hs⟩
        · exact next nw hs
        · rw [i_eq, e1, hb] at g3
          omega
      · rw [ix_of e3, ix_of e1, hW _ (by omega)] at g2
        replace g2 := Classical.not_not.mp g2
        have hi : i < wL (xCw r) := by
          by_cases e : i < wL (xCw r)
          · exact e
          · have ei : i = wL (xCw r) := by omega
            rw [ei, show xRp r + 1 + wL (xCw r) = xRp (r + 1) by omega, c3] at g2
            exact absurd g2.symm (no32 (a + wL (xCw r)) (by omega) (by omega))
        exact hs rfl r (i + 1) hx3 hr hx4 (by rw [i_add1 (by omega)]; omega) (by omega) (by omega) (fun q hq => by
          by_cases e : q = i
          · rw [e]
            exact (c4 i hi).1.symm.trans g2
          · exact hpre q (by omega))
  · intro x3 x4 M v N hs hM r t hx3 hr hx4 h1 h2 hn
    subst hM
    obtain ⟨c1, c2, c3, c4⟩ := xRp_ck r hr
    obtain ⟨_, hs⟩ := hs
    rcases hs with ⟨g, hs⟩ | ⟨g, hs⟩
    · rw [ix_of hx4, xWs_32 hW (by omega)] at g
      have et : t = xRp (r + 1) := by
        by_cases e : t < xRp (r + 1)
        · have := (c4 (t - (xRp r + 1)) (by omega)).2
          rw [show xRp r + 1 + (t - (xRp r + 1)) = t by omega] at this
          exact absurd g this
        · omega
      obtain ⟨k1, k2⟩ := hs rfl (r + 1) (by rw [hx3]; omega) (by omega) (by rw [hx4, et])
      refine ⟨k1, ?_⟩
      rcases k2 with ⟨r', q1, q2, q3, q4⟩ | ⟨q1, q2⟩
      · exact Or.inl ⟨r', by omega, q2, q3, q4⟩
      · refine Or.inr ⟨q1, fun r' q3 q4 => ?_⟩
        by_cases e : r' = r
        · rw [e]
          exact hn
        · exact q2 r' (by omega) q4
    · rw [ix_of hx4, xWs_32 hW (by omega)] at g
      refine hs rfl r (t + 1) hx3 hr (by rw [i_add1 (by omega)]; omega) (by omega) ?_ hn
      by_cases e : t = xRp (r + 1)
      · rw [e] at g
        exact absurd c3 g
      · omega
/-- a token as both sides have it: T, V the strings' side's, t, v the reference's -/
def xRel (T V t v : Int32) : Prop := (T = kI 101 ∧ t = kI 0) ∨ (T = kI 102 ∧ t = kI 1) ∨ (∃ r, r < 29 ∧ T = kI (xCw r) ∧ t = kI 2 ∧ v = kI r) ∨ (T = kI 100 ∧ t = kI 3 ∧ v = V) ∨ (¬ f_63 T = 0 ∧ t = kI 4 ∧ v = T)
/-- the reference has just read what stands at s -/
def xCur (M : pMem) (B : Nat → Int32) (n s : Nat) : Prop := M 188 26 = kI s ∧ (s < n → M 188 25 = kI (xNx B n s) ∧ xRel (xTk B n s) (xVl B n s) (M 188 27) (M 188 28)) ∧ (¬ s < n → M 188 25 = kI n ∧ M 188 27 = kI 0)
def xPre (M : pMem) (B : Nat → Int32) (n : Nat) : Prop := (M 188 24).toInt = n ∧ M 202 = B ∧ xWs (M 203)
theorem xPre_put {M : pMem} {B : Nat → Int32} {n j : Nat} {x : Int32} (h : xPre M B n) (hj : j ≠ 24) : xPre (aPut M 188 j x) B n := by
  obtain ⟨h1, h2, h3⟩ := h
  refine ⟨by rw [aPut_at (Ne.symm hj)]; exact h1, ?_, ?_⟩
  · rw [← h2]
    funext i
    exact aPut_cell (by decide)
  · have e : aPut M 188 j x 203 = M 203 := by funext i; exact aPut_cell (by decide)
    rw [e]
    exact h3
theorem f_60_at {M : pMem} {B : Nat → Int32} {n q : Nat} {x : Int32} (h : xPre M B n) (hx : x.toInt = q) : f_60 x M = if q < n then B q else kI (-1) := by
  unfold f_60
  by_cases c : q < n
  · rw [if_neg (show ¬ M 188 24 ≤ x by rw [i_le, h.1, hx]; omega), if_pos c, h.2.1, ix_of hx]
  · rw [if_pos (show M 188 24 ≤ x by rw [i_le, h.1, hx]; omega), if_neg c]
def xQ6 (B : Nat → Int32) (n : Nat) (M N : pMem) : Prop := xPre M B n → ∀ s q : Nat, (M 188 26) = kI s → (M 188 25).toInt = q → s < q → q ≤ n → M 188 27 = kI 1 → (∀ i, s ≤ i → i < q → xLt (B i) = true) →
  N 188 26 = kI s ∧ N 188 25 = kI (xEnd xLt B n q) ∧ ∀ V, xRel (xWd B s (xEnd xLt B n q)) V (N 188 27) (N 188 28)
def xQ12 (B : Nat → Int32) (n : Nat) (M N : pMem) : Prop := xPre M B n → ∀ s q : Nat, (M 188 26) = kI s → (M 188 25).toInt = q → s < q → q ≤ n → M 188 27 = kI 1 → (∀ i, s ≤ i → i < q → xDg (B i) = true) → (q - s ≤ 4 → M 188 28 = xV B s (q - s)) →
  N 188 26 = kI s ∧ N 188 25 = kI (xEnd xDg B n q) ∧ (xEnd xDg B n q - s ≤ 4 → N 188 27 = kI 3 ∧ N 188 28 = xV B s (xEnd xDg B n q - s)) ∧ (¬ xEnd xDg B n q - s ≤ 4 → N 188 27 = kI 1)
def xQ0 (B : Nat → Int32) (n : Nat) (M N : pMem) : Prop := xPre M B n → ∀ p : Nat, (M 188 25).toInt = p → p ≤ n → xCur N B n (xSk B n p)
theorem S_65_6w {B : Nat → Int32} {n : Nat} (hn : n ≤ 500) {P0 P6 P12 : pMem → pT Unit} (h6 : ∀ M v N, P6 M v N → xQ6 B n M N) {M : pMem} {v : Unit} {N : pMem} (hs : S_65_6 P0 P6 P12 M v N) : xQ6 B n M N := by
  intro hp s q hf hq hsq hqn ht hl
  have e60 := f_60_at hp hq
  rcases hs with ⟨g, v1, M1, hD, M2, e2, hs⟩ | ⟨g, M1, e1, hs⟩
  · rw [e60] at g
    have he : xEnd xLt B n q = q := by
      rw [xEnd_eq, if_neg]
      rintro ⟨c1, c2⟩
      rw [if_pos c1] at g
      exact xLt_t.mp c2 g
    have hf' : (M 188 26).toInt = s := by rw [hf]; exact kI_toInt (by omega) (by omega)
    have hb : ∀ i, s ≤ i → i < q → xLt (M 202 i) = true := by
      rw [hp.2.1]
      exact hl
    obtain ⟨rfl, w⟩ := D_64_w hf' hq hsq (by omega) hp.2.2 hb hD
    rw [hp.2.1] at w
    have w2 : M2 188 28 = v1 := by rw [e2]; exact aPut_same
    have w25 : M2 188 25 = M1 188 25 := by rw [e2]; exact aPut_at (by decide)
    have w26 : M2 188 26 = M1 188 26 := by rw [e2]; exact aPut_at (by decide)
    have w27 : M2 188 27 = M1 188 27 := by rw [e2]; exact aPut_at (by decide)
    rw [he]
    rcases hs with ⟨g2, _, hN⟩ | ⟨g2, M3, e3, _, hN⟩
    · rw [w2] at g2
      subst hN
      refine ⟨w26.trans hf, w25.trans (kI_inj hq), fun V => ?_⟩
      rcases w with ⟨r, _, hr, hv, _⟩ | ⟨_, w⟩
      · rw [hv, i_eq, kI_toInt (by omega) (by omega), kI_toInt (by decide) (by decide)] at g2
        omega
      · refine Or.inr (Or.inl ⟨xWd_none (fun j hj => ?_), w27.trans ht⟩)
        have := w (xRw j) (Nat.zero_le _) (xRw_lt j hj).1
        rwa [(xRw_lt j hj).2] at this
    · rw [w2] at g2
      rw [e3] at hN
      subst hN
      refine ⟨by rw [aPut_at (by decide)]; exact w26.trans hf, by rw [aPut_at (by decide)]; exact w25.trans (kI_inj hq), fun V => ?_⟩
      rcases w with ⟨r, _, hr, hv, w⟩ | ⟨hv, w⟩
      · refine Or.inr (Or.inr (Or.inl ⟨r, hr, xWd_some (xCw_lt r hr).1 w, aPut_same, ?_⟩))
        rw [aPut_at (by decide), w2]
        exact hv
      · exact absurd hv g2
  · rw [e60] at g
    have c1 : q < n := by
      by_cases c : q < n
      · exact c
      · rw [if_neg c] at g
        exact absurd rfl g
    rw [if_pos c1] at g
    have hl' := xLt_t.mpr g
    rw [xEnd_eq, if_pos ⟨c1, hl'⟩]
    refine h6 _ _ _ hs (by rw [e1]; exact xPre_put hp (by decide)) s (q + 1) (by rw [e1, aPut_at (by decide)]; exact hf) (by rw [e1, aPut_same, i_add1 (by omega)]; omega) (by omega) (by omega) (by rw [e1, aPut_at (by decide)]; exact ht) (fun i h1 h2 => ?_)
    by_cases e : i = q
    · rw [e]
      exact hl'
    · exact hl i h1 (by omega)
theorem S_65_12w {B : Nat → Int32} {n : Nat} (hn : n ≤ 500) {P0 P6 P12 : pMem → pT Unit} (h12 : ∀ M v N, P12 M v N → xQ12 B n M N) {M : pMem} {v : Unit} {N : pMem} (hs : S_65_12 P0 P6 P12 M v N) : xQ12 B n M N := by
  intro hp s q hf hq hsq hqn ht hl hval
  have e60 := f_60_at hp hq
  have hf' : (M 188 26).toInt = s := by rw [hf]; exact kI_toInt (by omega) (by omega)
  rcases hs with ⟨g, hs⟩ | ⟨g, hs⟩
  · rw [e60] at g
    have he : xEnd xDg B n q = q := by
      rw [xEnd_eq, if_neg]
      rintro ⟨c1, c2⟩
      rw [if_pos c1] at g
      exact xDg_t.mp c2 g
    have es : (M 188 25 - M 188 26).toInt = q - s := by rw [i_sub (by omega) (by omega), hq, hf']
    rw [he]
    rcases hs with ⟨g2, _, hN⟩ | ⟨g2, M1, e1, _, hN⟩
    · rw [i_le, es, kI_toInt (by decide) (by decide)] at g2
      subst hN
      exact ⟨hf, kI_inj hq, fun c => by omega, fun _ => ht⟩
    · rw [i_le, es, kI_toInt (by decide) (by decide)] at g2
      rw [e1] at hN
      subst hN
      refine ⟨by rw [aPut_at (by decide)]; exact hf, by rw [aPut_at (by decide)]; exact kI_inj hq, fun c => ⟨aPut_same, by rw [aPut_at (by decide)]; exact hval c⟩, fun c => by omega⟩
  · rw [e60] at g
    have c1 : q < n := by
      by_cases c : q < n
      · exact c
      · rw [if_neg c] at g
        exact absurd rfl g
    rw [if_pos c1] at g e60
    have hd' := xDg_t.mpr g
    rw [xEnd_eq, if_pos ⟨c1, hd'⟩]
    have hl2 : ∀ i, s ≤ i → i < q + 1 → xDg (B i) = true := fun i h1 h2 => by
      by_cases e : i = q
      · rw [e]
        exact hd'
      · exact hl i h1 (by omega)
    have small : q + 1 - s ≤ 4 → (xV B s (q - s)).toInt < 10000 := fun c => by
      have := (xV_rg (B := B) (p := s) (k := q - s) (fun i hi => hl (s + i) (by omega) (by omega)) (by omega)).2
      have b : (10 : Int) ^ (q - s) ≤ 1000 := by
        have : q - s = 0 ∨ q - s = 1 ∨ q - s = 2 ∨ q - s = 3 := by omega
        rcases this with e | e | e | e <;> rw [e] <;> decide
      omega
    rcases hs with ⟨g2, M1, e1, M2, e2, hs⟩ | ⟨g2, M1, e1, M2, e2, hs⟩
    · rw [i_le, kI_toInt (by decide) (by decide)] at g2
      refine h12 _ _ _ hs (by rw [e2, e1]; exact xPre_put (xPre_put hp (by decide)) (by decide)) s (q + 1) (by rw [e2, e1, aPut_at (by decide), aPut_at (by decide)]; exact hf) (by rw [e2, aPut_same, e1, aPut_at (by decide), i_add1 (by omega)]; omega) (by omega) (by omega) (by rw [e2, e1, aPut_at (by decide), aPut_at (by decide)]; exact ht) hl2 (fun c => ?_)
      exfalso
      have := hval (by omega)
      rw [this] at g2
      have := small c
      omega
    · refine h12 _ _ _ hs (by rw [e2, e1]; exact xPre_put (xPre_put hp (by decide)) (by decide)) s (q + 1) (by rw [e2, e1, aPut_at (by decide), aPut_at (by decide)]; exact hf) (by rw [e2, aPut_same, e1, aPut_at (by decide), i_add1 (by omega)]; omega) (by omega) (by omega) (by rw [e2, e1, aPut_at (by decide), aPut_at (by decide)]; exact ht) hl2 (fun c => ?_)
      rw [e2, aPut_at (by decide), e1, aPut_same, hval (by omega), e60, show q + 1 - s = (q - s) + 1 by omega]
      show _ = xV B s (q - s) * kI 10 + B (s + (q - s)) - kI 48
      rw [show s + (q - s) = q by omega, Int32.mul_comm]
theorem S_65_0w {B : Nat → Int32} {n : Nat} (hn : n ≤ 500) (hB : ∀ i, i < n → 0 ≤ (B i).toInt) {P0 P6 P12 : pMem → pT Unit} (h0 : ∀ M v N, P0 M v N → xQ0 B n M N) (h6 : ∀ M v N, P6 M v N → xQ6 B n M N) (h12 : ∀ M v N, P12 M v N → xQ12 B n M N) {M : pMem} {v : Unit} {N : pMem} (hs : S_65_0 P0 P6 P12 M v N) : xQ0 B n M N := by
  intro hp p hq hpn
  have e60 := f_60_at hp hq
  have skip : xBl (B p) = true → p < n → ∀ M1, M1 = aPut M 188 25 (M 188 25 + kI 1) → P0 M1 v N → xCur N B n (xSk B n p) := by
    intro hb hpn2 M1 e1 hs
    rw [xSk_bl hpn2 hb]
    exact h0 _ _ _ hs (by rw [e1]; exact xPre_put hp (by decide)) (p + 1) (by rw [e1, aPut_same, i_add1 (by omega)]; omega) (by omega)
  rcases hs with ⟨g, M1, e1, hs⟩ | ⟨g, hs⟩
  · rw [e60] at g
    by_cases c : p < n
    · rw [if_pos c] at g
      exact skip (by unfold xBl; rw [g]; rfl) c M1 e1 hs
    · rw [if_neg c] at g
      exact absurd g (by decide)
  · rw [e60] at g
    rcases hs with ⟨g2, M1, e1, M2, e2, hs⟩ | ⟨g2, M1, e1, hs⟩
    · rw [e60] at g2
      have p2 : xPre M2 B n := by rw [e2, e1]; exact xPre_put (xPre_put hp (by decide)) (by decide)
      have s2 : M2 188 25 = kI p := by rw [e2, e1, aPut_at (by decide), aPut_at (by decide)]; exact kI_inj hq
      have f2 : M2 188 26 = kI p := by rw [e2, e1, aPut_at (by decide), aPut_same]; exact kI_inj hq
      have t2 : M2 188 27 = kI 1 := by rw [e2]; exact aPut_same
      have e62 : f_60 (M2 188 25) M2 = if p < n then B p else kI (-1) := f_60_at p2 (by rw [s2]; exact kI_toInt (by omega) (by omega))
      rcases hs with ⟨g3, M3, e3, M4, e4, hs⟩ | ⟨g3, M3, e3, _, hN⟩
      · rw [e62] at g3
        have c : p < n := by
          by_cases c : p < n
          · exact c
          · rw [if_neg c] at g3
            exact absurd rfl g3
        rw [if_pos c] at g g2 e62
        have hb : xBl (B p) = false := by
          unfold xBl
          simp [g, g2]
        rw [xSk_no hb]
        have p4 : xPre M4 B n := by rw [e4, e3]; exact xPre_put (xPre_put p2 (by decide)) (by decide)
        have s4 : M4 188 25 = kI (p + 1 : Nat) := by
          rw [e4, aPut_at (by decide), e3, aPut_same, s2]
          exact kI_inj (by rw [i_add1 (by rw [kI_toInt (by omega) (by omega)]; omega), kI_toInt (by omega) (by omega)]; omega)
        have f4 : M4 188 26 = kI p := by rw [e4, aPut_at (by decide), e3, aPut_at (by decide)]; exact f2
        have t4 : M4 188 27 = kI 1 := by rw [e4, aPut_at (by decide), e3, aPut_at (by decide)]; exact t2
        have v4 : M4 188 28 = B p := by rw [e4, aPut_same]; exact e62
        rcases hs with ⟨g4, hs⟩ | ⟨g4, hs⟩
        · rw [e62] at g4
          have nl : xLt (B p) = false := by cases q : xLt (B p) with | false => rfl | true => exact absurd g4 (xLt_t.mp q)
          rcases hs with ⟨g5, hs⟩ | ⟨g5, M5, e5, hs⟩
          · rw [e62] at g5
            have nd : xDg (B p) = false := by cases q : xDg (B p) with | false => rfl | true => exact absurd g5 (xDg_t.mp q)
            have enx : xNx B n p = p + 1 := by unfold xNx; rw [nl, nd]; rfl
            rcases hs with ⟨g6, _, hN⟩ | ⟨g6, M5, e5, _, hN⟩
            · rw [e62] at g6
              subst hN
              refine ⟨f4, fun _ => ⟨by rw [enx]; exact s4, Or.inr (Or.inl ⟨?_, t4⟩)⟩, fun q => absurd c q⟩
              unfold xTk
              rw [nl, nd, if_neg (by decide), if_neg (by decide), if_pos g6]
            · rw [e62] at g6
              rw [e5] at hN
              subst hN
              have et : xTk B n p = B p := by
                unfold xTk
                rw [nl, nd, if_neg (by decide), if_neg (by decide), if_neg g6]
              refine ⟨by rw [aPut_at (by decide)]; exact f4, fun _ => ⟨by rw [enx, aPut_at (by decide)]; exact s4, Or.inr (Or.inr (Or.inr (Or.inr ⟨by rw [et]; exact g6, aPut_same, by rw [aPut_at (by decide), et]; exact v4⟩)))⟩, fun q => absurd c q⟩
          · rw [e62] at g5 e5
            have d : xDg (B p) = true := xDg_t.mpr g5
            have k := h12 _ _ _ hs (by rw [e5]; exact xPre_put p4 (by decide)) p (p + 1) (by rw [e5, aPut_at (by decide)]; exact f4) (by rw [e5, aPut_at (by decide), s4]; exact kI_toInt (by omega) (by omega)) (by omega) (by omega) (by rw [e5, aPut_at (by decide)]; exact t4) (fun i h1 h2 => by rw [show i = p by omega]; exact d) (fun _ => by
              rw [e5, aPut_same, show p + 1 - p = 1 by omega]
              show B p - kI 48 = xV B p 0 * kI 10 + B (p + 0) - kI 48
              rw [show xV B p 0 * kI 10 = 0 from rfl, Int32.zero_add]
              rfl)
            have enx : xNx B n p = xEnd xDg B n (p + 1) := by unfold xNx; rw [nl, d]; rfl
            refine ⟨k.1, fun _ => ⟨by rw [enx]; exact k.2.1, ?_⟩, fun q => absurd c q⟩
            have et : xTk B n p = if xEnd xDg B n (p + 1) - p ≤ 4 then kI 100 else kI 102 := by unfold xTk; rw [nl, d]; rfl
            have ev : xVl B n p = xV B p (xEnd xDg B n (p + 1) - p) := by unfold xVl; rw [nl, d]; rfl
            by_cases c4 : xEnd xDg B n (p + 1) - p ≤ 4
            · obtain ⟨k3, k4⟩ := k.2.2.1 c4
              exact Or.inr (Or.inr (Or.inr (Or.inl ⟨by rw [et, if_pos c4], k3, by rw [ev]; exact k4⟩)))
            · exact Or.inr (Or.inl ⟨by rw [et, if_neg c4], k.2.2.2 c4⟩)
        · rw [e62] at g4
          have l : xLt (B p) = true := xLt_t.mpr g4
          have k := h6 _ _ _ hs p4 p (p + 1) f4 (by rw [s4]; exact kI_toInt (by omega) (by omega)) (by omega) (by omega) t4 (fun i h1 h2 => by rw [show i = p by omega]; exact l)
          have enx : xNx B n p = xEnd xLt B n (p + 1) := by unfold xNx; rw [l]; rfl
          have et : xTk B n p = xWd B p (xEnd xLt B n (p + 1)) := by unfold xTk; rw [l]; rfl
          refine ⟨k.1, fun _ => ⟨by rw [enx]; exact k.2.1, by rw [et]; exact k.2.2 _⟩, fun q => absurd c q⟩
      · rw [e62] at g3
        have c : ¬ p < n := by
          intro c
          rw [if_pos c] at g3
          have := hB p c
          rw [Classical.not_not.mp g3] at this
          exact absurd this (by decide)
        have ep : p = n := by omega
        rw [e3] at hN
        subst hN
        have es : xSk B n p = n := by rw [ep]; exact xSk_n
        rw [es]
        refine ⟨by rw [aPut_at (by decide), f2, ep], fun q => absurd q (Nat.lt_irrefl _), fun _ => ⟨by rw [aPut_at (by decide), s2, ep], aPut_same⟩⟩
    · rw [e60] at g2
      replace g2 := Classical.not_not.mp g2
      by_cases c : p < n
      · rw [if_pos c] at g2
        exact skip (by unfold xBl; rw [g2]; rfl) c M1 e1 hs
      · rw [if_neg c] at g2
        exact absurd g2 (by decide)
theorem D_65_w {B : Nat → Int32} {n : Nat} (hn : n ≤ 500) (hB : ∀ i, i < n → 0 ≤ (B i).toInt) {M : pMem} {v : Unit} {N : pMem} (h : D_65 M v N) : xQ0 B n M N := by
  have hC : C_65 (fun M _ N => xQ0 B n M N) (fun M _ N => xQ6 B n M N) (fun M _ N => xQ12 B n M N) :=
    ⟨fun M v N hs => S_65_0w hn hB (fun _ _ _ k => k) (fun _ _ _ k => k) (fun _ _ _ k => k) hs, fun M v N hs => S_65_6w hn (fun _ _ _ k => k) hs, fun M v N hs => S_65_12w hn (fun _ _ _ k => k) hs⟩
  exact S_65_0w (P0 := L_65_0) (P6 := L_65_6) (P12 := L_65_12) hn hB (fun M v N k => k (_, _, _) hC) (fun M v N k => k (_, _, _) hC) (fun M v N k => k (_, _, _) hC) h
/-! plans, read by both sides -/
def yT (B : Nat → Int32) (n k : Nat) : Int32 := if xSt B n k < n then xTk B n (xSt B n k) else kI 101
def yV (B : Nat → Int32) (n k : Nat) : Int32 := if xSt B n k < n then xVl B n (xSt B n k) else kI 0
theorem xSt_end {B : Nat → Int32} {n c : Nat} (h : xSt B n c = n) : ∀ d, xSt B n (c + d) = n := by
  intro d
  induction d with
  | zero => exact h
  | succ d ih =>
    show (if xSt B n (c + d) < n then _ else n) = n
    rw [ih, if_neg (Nat.lt_irrefl _)]
/-- the reader stands at token k -/
def rdR (M : pMem) (B : Nat → Int32) (n c k : Nat) : Prop := xToks M B n c ∧ xSt B n c = n ∧ c ≤ n ∧ n ≤ 500 ∧ (M 6 3).toInt = k ∧ (M 1 0).toInt = n
theorem zR_t {M : pMem} {B : Nat → Int32} {n c k : Nat} (h : rdR M B n c k) : f_171 M = yT B n k ∧ f_172 M = yV B n k ∧ (k < c ↔ xSt B n k < n) := by
  obtain ⟨⟨h1, h2⟩, h3, h4, h5, h6, h7⟩ := h
  have e : k < c ↔ xSt B n k < n := by
    constructor
    · intro q
      exact (h2 k q).1
    · intro q
      by_cases g : k < c
      · exact g
      · have := xSt_end h3 (k - c)
        rw [show c + (k - c) = k by omega] at this
        omega
  refine ⟨?_, ?_, e⟩
  · unfold f_171 yT
    simp only [i_lt, i_le, h6, h1, i_0]
    rw [if_neg (show ¬ (k : Int) < 0 by omega)]
    by_cases g : k < c
    · rw [if_neg (show ¬ (c : Int) ≤ (k : Int) by omega), if_pos (e.mp g), ix_of h6]
      exact (h2 k g).2.1
    · rw [if_pos (show (c : Int) ≤ (k : Int) by omega), if_neg (fun q => g (e.mpr q))]
  · unfold f_172 yV
    simp only [i_lt, i_le, h6, h1, i_0]
    rw [if_neg (show ¬ (k : Int) < 0 by omega)]
    by_cases g : k < c
    · rw [if_neg (show ¬ (c : Int) ≤ (k : Int) by omega), if_pos (e.mp g), ix_of h6]
      exact (h2 k g).2.2.2
    · rw [if_pos (show (c : Int) ≤ (k : Int) by omega), if_neg (fun q => g (e.mpr q))]
/-- nothing of the tokens is touched -/
theorem zR_fr {M N : pMem} {B : Nat → Int32} {n c k k' : Nat} {L : List (Nat × Nat)} (h : rdR M B n c k) (f : pFr L M N) (h1 : ∀ j, (pOut L 1 j && (pOut L 3 j && (pOut L 4 j && pOut L 5 j))) = true) (hk : (N 6 3).toInt = k') : rdR N B n c k' := by
  obtain ⟨⟨t1, t2⟩, h3, h4, h5, h6, h7⟩ := h
  have q : ∀ j, (pOut L 1 j = true ∧ pOut L 3 j = true ∧ pOut L 4 j = true ∧ pOut L 5 j = true) := fun j => by
    have := h1 j
    simp only [Bool.and_eq_true] at this
    exact ⟨this.1, this.2.1, this.2.2.1, this.2.2.2⟩
  refine ⟨⟨by rw [f 1 1 (by decide) rfl (q 1).1]; exact t1, fun i hi => ?_⟩, h3, h4, h5, hk, by rw [f 1 0 (by decide) rfl (q 0).1]; exact h7⟩
  rw [f 3 i (by decide) rfl (q i).2.1, f 4 i (by decide) rfl (q i).2.2.1, f 5 i (by decide) rfl (q i).2.2.2]
  exact t2 i hi
theorem D_173_w {M : pMem} {B : Nat → Int32} {n c k : Nat} (h : rdR M B n c k) {p1 : Int32} {v : Int32} {N : pMem} (hD : D_173 p1 M v N) : v = kI 0 ∧ N 6 3 = M 6 3 ∧ N 6 4 = p1 ∧ N 6 5 = kI (xSt B n k) := by
  have hz := zR_t h
  obtain ⟨⟨h1, h2⟩, h3, h4, h5, h6, h7⟩ := h
  obtain ⟨M1, e1, hD⟩ := hD
  have a3 : M1 6 3 = M 6 3 := by rw [e1]; exact aPut_at (by decide)
  have a4 : M1 6 4 = p1 := by rw [e1]; exact aPut_same
  have a10 : M1 1 0 = M 1 0 := by rw [e1]; exact aPut_cell (by decide)
  have a11 : M1 1 1 = M 1 1 := by rw [e1]; exact aPut_cell (by decide)
  have a4' : ∀ i, M1 4 i = M 4 i := fun i => by rw [e1]; exact aPut_cell (by decide)
  rcases hD with ⟨g, _⟩ | ⟨g, hD⟩
  · rw [a3, i_lt, h6, i_0] at g
    omega
  · rcases hD with ⟨g2, M2, e2, hv, hN⟩ | ⟨g2, _, M2, e2, hv, hN⟩
    · rw [a3, a11, i_le, h6, h1] at g2
      have : xSt B n k = n := by
        have := xSt_le (B := B) (n := n) k
        have := hz.2.2
        omega
      subst hN
      rw [e2]
      exact ⟨hv, by rw [aPut_at (by decide)]; exact a3, by rw [aPut_at (by decide)]; exact a4, by rw [aPut_same, a10, this]; exact kI_inj h7⟩
    · rw [a3, a11, i_le, h6, h1] at g2
      subst hN
      rw [e2]
      refine ⟨hv, by rw [aPut_at (by decide)]; exact a3, by rw [aPut_at (by decide)]; exact a4, ?_⟩
      rw [aPut_same, a3, ix_of h6, a4']
      exact (h2 k (by omega)).2.2.1
/-- what a reading function left: fine, at token k'; or a fault f at token k' -/
def zOk (M N : pMem) (v : Int32) (k' : Nat) : Prop := v = kI 1 ∧ (N 6 3).toInt = k' ∧ N 6 4 = M 6 4 ∧ N 6 5 = M 6 5
def rdNo (B : Nat → Int32) (n : Nat) (N : pMem) (v : Int32) (f k' : Nat) : Prop := v = kI 0 ∧ N 6 4 = kI f ∧ N 6 5 = kI (xSt B n k')
theorem at_put {M : pMem} {k : Nat} (h6 : (M 6 3).toInt = k) (h5 : k ≤ 1000) {N : pMem} (hN : N = aPut M 6 3 (M 6 3 + kI 1)) : (N 6 3).toInt = ((k + 1 : Nat) : Int) ∧ N 6 4 = M 6 4 ∧ N 6 5 = M 6 5 := by
  rw [hN]
  refine ⟨by rw [aPut_same, i_add1 (by omega)]; omega, aPut_at (by decide), aPut_at (by decide)⟩
theorem zR_k {M : pMem} {B : Nat → Int32} {n c k : Nat} (h : rdR M B n c k) (h2 : ¬ yT B n k = kI 101) : k < 500 := by
  have := (zR_t h).2.2
  obtain ⟨_, h3, h4, h5, _, _⟩ := h
  by_cases g : xSt B n k < n
  · have := this.mpr g
    omega
  · exact absurd (by unfold yT; rw [if_neg g]) h2
theorem D_176_w {M : pMem} {B : Nat → Int32} {n c k : Nat} (h : rdR M B n c k) {a b : Int32} (hb : b.toInt ≤ 99) {v : Int32} {N : pMem} (hD : D_176 a b M v N) :
    (a.toInt ≤ (yT B n k).toInt ∧ (yT B n k).toInt ≤ b.toInt → zOk M N v (k + 1)) ∧ (¬ (a.toInt ≤ (yT B n k).toInt ∧ (yT B n k).toInt ≤ b.toInt) → rdNo B n N v 1 k) := by
  have ht := (zR_t h).1
  rcases hD with ⟨g, v1, M1, hD, hv, hN⟩ | ⟨g, hD⟩
  · rw [ht, i_lt] at g
    obtain ⟨r1, r2, r3, r4⟩ := D_173_w h hD
    subst hN
    exact ⟨fun q => by omega, fun _ => ⟨hv.trans r1, r3, r4⟩⟩
  · rw [ht, i_lt] at g
    rcases hD with ⟨g2, M1, e1, hv, hN⟩ | ⟨g2, v1, M1, hD, hv, hN⟩
    · rw [ht, i_le] at g2
      have hk := zR_k h (fun e => by rw [e, kI_toInt (by decide) (by decide)] at g2; omega)
      obtain ⟨r1, r2, r3⟩ := at_put h.2.2.2.2.1 (by omega) (hN.trans e1)
      exact ⟨fun _ => ⟨hv, r1, r2, r3⟩, fun q => by omega⟩
    · rw [ht, i_le] at g2
      obtain ⟨r1, r2, r3, r4⟩ := D_173_w h hD
      subst hN
      exact ⟨fun q => by omega, fun _ => ⟨hv.trans r1, r3, r4⟩⟩
theorem D_183_w {M : pMem} {B : Nat → Int32} {n c k : Nat} (h : rdR M B n c k) {a : Int32} {v : Int32} {N : pMem} (hD : D_183 a M v N) :
    (¬ yT B n k = kI 100 → rdNo B n N v 1 k) ∧ (yT B n k = kI 100 → (¬ yV B n k ≤ a → rdNo B n N v 2 k) ∧ (yV B n k ≤ a → zOk M N v (k + 1))) := by
  obtain ⟨ht, hv', _⟩ := zR_t h
  rcases hD with ⟨g, hD⟩ | ⟨g, v1, M1, hD, hv, hN⟩
  · rw [ht] at g
    refine ⟨fun q => absurd g q, fun _ => ?_⟩
    rcases hD with ⟨g2, M1, e1, hv, hN⟩ | ⟨g2, v1, M1, hD, hv, hN⟩
    · rw [hv'] at g2
      have hk := zR_k h (fun e => by rw [e] at g; exact absurd g (by decide))
      obtain ⟨r1, r2, r3⟩ := at_put h.2.2.2.2.1 (by omega) (hN.trans e1)
      exact ⟨fun q => absurd g2 q, fun _ => ⟨hv, r1, r2, r3⟩⟩
    · rw [hv'] at g2
      obtain ⟨r1, r2, r3, r4⟩ := D_173_w h hD
      subst hN
      exact ⟨fun _ => ⟨hv.trans r1, r3, r4⟩, fun q => absurd q g2⟩
  · rw [ht] at g
    obtain ⟨r1, r2, r3, r4⟩ := D_173_w h hD
    subst hN
    exact ⟨fun _ => ⟨hv.trans r1, r3, r4⟩, fun q => absurd q g⟩
/-- a line of a plan: what is wrong (0 nothing), the token behind it (or at which it is wrong), its word and number -/
def plOne (T V : Nat → Int32) (k : Nat) : Nat × Nat × (Int32 × Int32) :=
  if T k = kI 25 ∨ T k = kI 28 then
    (if ¬ T (k + 1) = kI 100 then (1, k + 1, (kI 0, kI 0)) else if ¬ V (k + 1) ≤ (if T k = kI 28 then kI 1 else kI 9) then (2, k + 1, (kI 0, kI 0))
      else if ¬ T (k + 2) = kI 59 then (1, k + 2, (kI 0, kI 0)) else (0, k + 3, (T k, V (k + 1))))
  else if ¬ T (k + 1) = kI 59 then (1, k + 1, (kI 0, kI 0)) else (0, k + 2, (T k, kI 0))
def plL (T V : Nat → Int32) : Nat → Nat → Nat × Nat × List (Int32 × Int32)
  | 0, k => if T k = kI 101 then (0, k, []) else if (T k).toInt < 24 ∨ 28 < (T k).toInt then (1, k, []) else (3, k, [])
  | m + 1, k => if T k = kI 101 then (0, k, []) else if (T k).toInt < 24 ∨ 28 < (T k).toInt then (1, k, []) else
      if (plOne T V k).1 = 0 then ((plL T V m (plOne T V k).2.1).1, (plL T V m (plOne T V k).2.1).2.1, (plOne T V k).2.2 :: (plL T V m (plOne T V k).2.1).2.2)
      else ((plOne T V k).1, (plOne T V k).2.1, [])
/-- days out of lines -/
def plDay (q : List (Int32 × Int32 × Int32) × Int32) (w : Int32 × Int32) : List (Int32 × Int32 × Int32) × Int32 :=
  if w.1 = kI 28 then (q.1, w.2) else (q.1 ++ [(w.1 - kI 24, w.2, q.2)], kI (-1))
/-- a plan of the strings' side holds those days -/
def pdOk (M : pMem) (b : Nat) (l : List (Int32 × Int32 × Int32)) : Prop := (M b 0).toInt = l.length ∧ ∀ i x, l[i]? = some x → M (b + 1) i = x.1 ∧ M (b + 2) i = x.2.1 ∧ M (b + 3) i = x.2.2
theorem pdOk_eq {M N : pMem} {b : Nat} {l : List (Int32 × Int32 × Int32)} (h : pdOk M b l) (h0 : N b 0 = M b 0) (h1 : ∀ i, N (b + 1) i = M (b + 1) i ∧ N (b + 2) i = M (b + 2) i ∧ N (b + 3) i = M (b + 3) i) : pdOk N b l := by
  refine ⟨by rw [h0]; exact h.1, fun i x hx => ?_⟩
  rw [(h1 i).1, (h1 i).2.1, (h1 i).2.2]
  exact h.2 i x hx
theorem D_163_w {M : pMem} {l : List (Int32 × Int32 × Int32)} {p1 p2 : Int32} (h : pdOk M 14 l) (hl : l.length < 24) {v : Unit} {N : pMem} (hD : D_163 14 p1 p2 M v N) : pdOk N 14 (l ++ [(p1, p2, M 14 1)]) ∧ N 14 1 = kI (-1) ∧ N 6 = M 6 := by
  obtain ⟨h1, h2⟩ := h
  have hD := tIf_n (by rw [i_lt, h1, i_0]; omega) hD
  have hD := tIf_n (by rw [i_le, h1, kI_toInt (by decide) (by decide)]; omega) hD
  obtain ⟨_, M1, e1, _, M2, e2, _, M3, e3, M4, e4, M5, e5, _, rfl⟩ := hD
  have ix1 : ix (M 14 0) = l.length := ix_of h1
  have a1 : M1 14 0 = M 14 0 := by rw [e1]; exact aPut_cell (by decide)
  have a2 : M2 14 0 = M 14 0 := by rw [e2, aPut_cell (by decide)]; exact a1
  have a3 : M3 14 0 = M 14 0 := by rw [e3, aPut_cell (by decide)]; exact a2
  have b2 : M2 14 1 = M 14 1 := by rw [e2, aPut_cell (by decide), e1, aPut_cell (by decide)]
  rw [a3] at e4
  rw [a2, b2, ix1] at e3
  rw [a1, ix1] at e2
  rw [ix1] at e1
  refine ⟨⟨?_, fun i x hx => ?_⟩, ?_, ?_⟩
  · rw [e5, aPut_at (by decide), e4, aPut_same, i_add1 (by omega), h1, List.length_append]
    rfl
  · have g15 : N (14 + 1) i = if i = l.length then p1 else M 15 i := by
      rw [e5, aPut_cell (by decide), e4, aPut_cell (by decide), e3, aPut_cell (by decide), e2, aPut_cell (by decide), e1]
      exact aPut_row
    have g16 : N (14 + 2) i = if i = l.length then p2 else M 16 i := by
      rw [e5, aPut_cell (by decide), e4, aPut_cell (by decide), e3, aPut_cell (by decide), e2]
      show aPut M1 16 _ _ 16 i = _
      rw [aPut_row, e1, aPut_cell (by decide)]
    have g17 : N (14 + 3) i = if i = l.length then M 14 1 else M 17 i := by
      rw [e5, aPut_cell (by decide), e4, aPut_cell (by decide), e3]
      show aPut M2 17 _ _ 17 i = _
      rw [aPut_row, e2, aPut_cell (by decide), e1, aPut_cell (by decide)]
    rw [g15, g16, g17]
    by_cases c : i = l.length
    · rw [if_pos c, if_pos c, if_pos c]
      rw [c, List.getElem?_append_right (Nat.le_refl _), Nat.sub_self] at hx
      cases hx
      exact ⟨rfl, rfl, rfl⟩
    · rw [if_neg c, if_neg c, if_neg c]
      by_cases c2 : i < l.length
      · rw [List.getElem?_append_left c2] at hx
        exact h2 i x hx
      · rw [List.getElem?_eq_none (by rw [List.length_append]; show _ ≤ i; have : [(p1, p2, M 14 1)].length = 1 := rfl; omega)] at hx
        cases hx
  · rw [e5]
    exact aPut_same
  · funext i
    rw [e5, aPut_cell (by decide), e4, aPut_cell (by decide), e3, aPut_cell (by decide), e2, aPut_cell (by decide), e1, aPut_cell (by decide)]
/-- the draft of the strings' side: its days so far, the lot that is stirred -/
def pdD (M : pMem) (q : List (Int32 × Int32 × Int32) × Int32) : Prop := pdOk M 14 q.1 ∧ M 14 1 = q.2
theorem pdD_fr {M N : pMem} {q : List (Int32 × Int32 × Int32) × Int32} {L : List (Nat × Nat)} (h : pdD M q) (f : pFr L M N) (h1 : ∀ j, (pOut L 14 j && (pOut L 15 j && (pOut L 16 j && pOut L 17 j))) = true) : pdD N q := by
  have g : ∀ j, (pOut L 14 j = true ∧ pOut L 15 j = true ∧ pOut L 16 j = true ∧ pOut L 17 j = true) := fun j => by
    have := h1 j
    simp only [Bool.and_eq_true] at this
    exact ⟨this.1, this.2.1, this.2.2.1, this.2.2.2⟩
  refine ⟨pdOk_eq h.1 (f 14 0 (by decide) rfl (g 0).1) (fun i => ⟨f 15 i (by decide) rfl (g i).2.1, f 16 i (by decide) rfl (g i).2.2.1, f 17 i (by decide) rfl (g i).2.2.2⟩), ?_⟩
  rw [f 14 1 (by decide) rfl (g 1).1]
  exact h.2
theorem yk {x : Int32} {n : Int} (h1 : -2147483648 ≤ n) (h2 : n ≤ 2147483647) : x = kI n ↔ x.toInt = n := by
  rw [i_eq, kI_toInt h1 h2]
theorem D_182_w {M : pMem} {B : Nat → Int32} {n c k line : Nat} {q : List (Int32 × Int32 × Int32) × Int32} (h : rdR M B n c k) (hq : pdD M q) (hl : q.1.length ≤ line) {p1 : Int32} (hp : p1.toInt = line) {v : Int32} {N : pMem} (hD : D_182 p1 M v N) :
    ((yT B n k).toInt < 24 ∨ 28 < (yT B n k).toInt → rdNo B n N v 1 k) ∧ (¬ ((yT B n k).toInt < 24 ∨ 28 < (yT B n k).toInt) → (¬ line < 24 → rdNo B n N v 3 k) ∧ (line < 24 →
      (¬ (plOne (yT B n) (yV B n) k).1 = 0 → rdNo B n N v (plOne (yT B n) (yV B n) k).1 (plOne (yT B n) (yV B n) k).2.1) ∧
      ((plOne (yT B n) (yV B n) k).1 = 0 → zOk M N v (plOne (yT B n) (yV B n) k).2.1 ∧ pdD N (plDay q (plOne (yT B n) (yV B n) k).2.2)))) := by
  have ht := (zR_t h).1
  rcases hD with ⟨g, v1, M1, hD, hv, hN⟩ | ⟨g, hD⟩
  · rw [ht, i_lt, kI_toInt (by decide) (by decide)] at g
    obtain ⟨r1, r2, r3, r4⟩ := D_173_w h hD
    subst hN
    exact ⟨fun _ => ⟨hv.trans r1, r3, r4⟩, fun q => absurd (Or.inl g) q⟩
  · rw [ht, i_lt, kI_toInt (by decide) (by decide)] at g
    rcases hD with ⟨g2, hD⟩ | ⟨g2, v1, M1, hD, hv, hN⟩
    · rw [ht, i_le, kI_toInt (by decide) (by decide)] at g2
      refine ⟨fun e => by omega, fun _ => ?_⟩
      rcases hD with ⟨g3, M1, e1, hD⟩ | ⟨g3, v1, M1, hD, hv, hN⟩
      · rw [i_lt, hp, kI_toInt (by decide) (by decide)] at g3
        refine ⟨fun e => by omega, fun _ => ?_⟩
        have hk := zR_k h (fun e => by rw [e, kI_toInt (by decide) (by decide)] at g2; omega)
        obtain ⟨s1, s2, s3⟩ := at_put h.2.2.2.2.1 (by omega) e1
        have f1 : pFr [(6, 3)] M M1 := fun a j h1 h2 h3 => by
          rw [e1]
          by_cases e : a = 6
          · subst e
            refine aPut_at (fun e => ?_)
            subst e
            exact absurd h3 (by decide)
          · exact aPut_cell e
        have z1 : rdR M1 B n c (k + 1) := zR_fr h f1 (fun j => rfl) s1
        have q1 : pdD M1 q := pdD_fr hq f1 (fun j => rfl)
        -- the line's number
        have rd : ∀ (a : Int32), (yT B n k = kI 25 ∨ yT B n k = kI 28) → a = (if yT B n k = kI 28 then kI 1 else kI 9) → ∀ v1 M2, D_183 a M1 v1 M2 →
            (v1 = kI 0 → v = kI 0 → N = M2 → (¬ (plOne (yT B n) (yV B n) k).1 = 0 ∧ rdNo B n N v (plOne (yT B n) (yV B n) k).1 (plOne (yT B n) (yV B n) k).2.1)) ∧
            (¬ v1 = kI 0 → zOk M1 M2 v1 (k + 2) ∧ yT B n (k + 1) = kI 100 ∧ yV B n (k + 1) ≤ a ∧ rdR M2 B n c (k + 2) ∧ pdD M2 q) := by
          intro a hT ha v1 M2 hD
          obtain ⟨r1, r2⟩ := D_183_w z1 hD
          have f2 := F_183 hD
          by_cases c1 : yT B n (k + 1) = kI 100
          · obtain ⟨r3, r4⟩ := r2 c1
            by_cases c2 : yV B n (k + 1) ≤ a
            · have r4 := r4 c2
              refine ⟨fun e => ?_, fun _ => ⟨r4, c1, c2, zR_fr z1 f2 (fun j => rfl) r4.2.1, pdD_fr q1 f2 (fun j => rfl)⟩⟩
              rw [r4.1] at e
              exact absurd e (by decide)
            · have r3 := r3 c2
              refine ⟨fun e1 e2 e3 => ?_, fun e => absurd r3.1 e⟩
              have ep : plOne (yT B n) (yV B n) k = (2, k + 1, (kI 0, kI 0)) := by
                unfold plOne
                rw [if_pos hT, if_neg (nn c1), if_pos (by rw [← ha]; exact c2)]
              rw [ep, e2, e3]
              exact ⟨show ¬ (2 : Nat) = 0 by decide, rfl, r3.2.1, r3.2.2⟩
          · have r1 := r1 c1
            refine ⟨fun e1 e2 e3 => ?_, fun e => absurd r1.1 e⟩
            have ep : plOne (yT B n) (yV B n) k = (1, k + 1, (kI 0, kI 0)) := by
              unfold plOne
              rw [if_pos hT, if_pos c1]
            rw [ep, e2, e3]
            exact ⟨show ¬ (1 : Nat) = 0 by decide, rfl, r1.2.1, r1.2.2⟩
        have tv : ∀ v1 : Int32, (¬ v1 = 0 ↔ ¬ v1 = kI 0) := fun v1 => Iff.rfl
        have v172 : f_172 M1 = yV B n (k + 1) := (zR_t z1).2.1
        -- the sign at the end
        have sg : ∀ (M2 M3 : pMem) (k2 : Nat) (q2 : List (Int32 × Int32 × Int32) × Int32) (v3 : Int32), rdR M3 B n c k2 → pdD M3 q2 → M3 6 4 = M 6 4 → M3 6 5 = M 6 5 → D_176 (kI 59) (kI 59) M3 v3 N → v = v3 →
            (yT B n k2 = kI 59 → zOk M N v (k2 + 1) ∧ pdD N q2) ∧ (¬ yT B n k2 = kI 59 → rdNo B n N v 1 k2) := by
          intro M2 M3 k2 q2 v3 z3 d3 e4 e5 hD hv
          obtain ⟨r1, r2⟩ := D_176_w z3 (by decide) hD
          subst hv
          have f3 := F_176 hD
          have e59 : (kI 59).toInt = 59 := rfl
          constructor
          · intro e
            have r1 := r1 (by rw [e]; exact ⟨Int.le_refl _, Int.le_refl _⟩)
            exact ⟨⟨r1.1, r1.2.1, r1.2.2.1.trans e4, r1.2.2.2.trans e5⟩, pdD_fr d3 f3 (fun j => rfl)⟩
          · intro e
            exact r2 (fun w => e (by rw [yk (by decide) (by decide)]; omega))
        have stirP : ∀ M2, rdR M2 B n c (k + 2) → pdD M2 q → M2 6 4 = M1 6 4 → M2 6 5 = M1 6 5 → ∀ M3, M3 = aPut M2 14 1 (f_172 M1) → rdR M3 B n c (k + 2) ∧ pdD M3 (q.1, yV B n (k + 1)) ∧ M3 6 4 = M 6 4 ∧ M3 6 5 = M 6 5 := by
          intro M2 z2 d2 e4 e5 M3 e3
          have f3 : pFr [(14, 1)] M2 M3 := fun a j h1 h2 h3 => by
            rw [e3]
            by_cases e : a = 14
            · subst e
              refine aPut_at (fun e => ?_)
              subst e
              exact absurd h3 (by decide)
            · exact aPut_cell e
          refine ⟨zR_fr z2 f3 (fun j => rfl) (by rw [f3 6 3 (by decide) rfl rfl]; exact z2.2.2.2.2.1), ⟨pdOk_eq d2.1 (f3 14 0 (by decide) rfl rfl) (fun i => ⟨f3 15 i (by decide) rfl rfl, f3 16 i (by decide) rfl rfl, f3 17 i (by decide) rfl rfl⟩), ?_⟩, ?_, ?_⟩
          · rw [e3, aPut_same]
            exact v172
          · rw [f3 6 4 (by decide) rfl rfl, e4, s2]
          · rw [f3 6 5 (by decide) rfl rfl, e5, s3]
        have dayP : ∀ (M2 : pMem) (k2 : Nat) (x : Int32), rdR M2 B n c k2 → pdD M2 q → M2 6 4 = M1 6 4 → M2 6 5 = M1 6 5 → ∀ u M3, D_163 14 (f_171 M - kI 24) x M2 u M3 → rdR M3 B n c k2 ∧ pdD M3 (q.1 ++ [(yT B n k - kI 24, x, q.2)], kI (-1)) ∧ M3 6 4 = M 6 4 ∧ M3 6 5 = M 6 5 := by
          intro M2 k2 x z2 d2 e4 e5 u M3 hD
          have f3 := F_163 (show pK 3 14 = true by decide +kernel) hD
          obtain ⟨r1, r2, r3⟩ := D_163_w d2.1 (by omega) hD
          rw [d2.2, ht] at r1
          refine ⟨zR_fr z2 f3 (fun j => rfl) (by rw [r3]; exact z2.2.2.2.2.1), ⟨r1, r2⟩, by rw [r3, e4, s2], by rw [r3, e5, s3]⟩
        rcases hD with ⟨g4, hD⟩ | ⟨g4, hD⟩
        · -- against
          rw [ht] at g4
          have n28 : ¬ yT B n k = kI 28 := by rw [g4]; decide
          have hD := tIf_p (by rw [ht]; exact n28) hD
          obtain ⟨v1, M2, h183, hD⟩ := hD
          obtain ⟨r1, r2⟩ := rd (kI 9) (Or.inl g4) (by rw [if_neg n28]) v1 M2 h183
          rcases hD with ⟨g5, hD⟩ | ⟨g5, hv, hN⟩
          · obtain ⟨o1, o2, o3, o4, o5⟩ := r2 g5
            have hD := tIf_p (by rw [ht]; exact n28) hD
            obtain ⟨u, M3, h163, v3, M4, h176, hv, hN⟩ := hD
            rw [v172] at h163
            obtain ⟨p1', p2', p3', p4'⟩ := dayP M2 (k + 2) _ o4 o5 o1.2.2.1 o1.2.2.2 u M3 h163
            subst hN
            obtain ⟨w1, w2⟩ := sg M2 M3 (k + 2) _ v3 p1' p2' p3' p4' h176 hv
            by_cases c59 : yT B n (k + 2) = kI 59
            · have ep : plOne (yT B n) (yV B n) k = (0, k + 3, (yT B n k, yV B n (k + 1))) := by
                unfold plOne
                rw [if_pos (Or.inl g4), if_neg (nn o2), if_neg (nn (by rw [if_neg n28]; exact o3)), if_neg (nn c59)]
              rw [ep]
              refine ⟨fun e => absurd rfl e, fun _ => ?_⟩
              have := w1 c59
              refine ⟨this.1, ?_⟩
              unfold plDay
              rw [if_neg n28]
              exact this.2
            · have ep : plOne (yT B n) (yV B n) k = (1, k + 2, (kI 0, kI 0)) := by
                unfold plOne
                rw [if_pos (Or.inl g4), if_neg (nn o2), if_neg (nn (by rw [if_neg n28]; exact o3)), if_pos c59]
              rw [ep]
              exact ⟨fun _ => w2 c59, fun e => absurd e (show ¬ (1 : Nat) = 0 by decide)⟩
          · have := r1 (Classical.not_not.mp g5) hv hN
            exact ⟨fun _ => this.2, fun e => absurd e this.1⟩
        · rw [ht] at g4
          rcases hD with ⟨g5, hD⟩ | ⟨g5, hD⟩
          · -- apart, beside, together
            rw [ht] at g5
            have hD := tIf_p (by rw [ht]; exact g5) hD
            obtain ⟨u, M2, h163, v3, M4, h176, hv, hN⟩ := hD
            obtain ⟨p1', p2', p3', p4'⟩ := dayP M1 (k + 1) _ z1 q1 rfl rfl u M2 h163
            subst hN
            obtain ⟨w1, w2⟩ := sg M1 M2 (k + 1) _ v3 p1' p2' p3' p4' h176 hv
            have nT : ¬ (yT B n k = kI 25 ∨ yT B n k = kI 28) := fun e => e.elim g4 g5
            by_cases c59 : yT B n (k + 1) = kI 59
            · have ep : plOne (yT B n) (yV B n) k = (0, k + 2, (yT B n k, kI 0)) := by
                unfold plOne
                rw [if_neg nT, if_neg (nn c59)]
              rw [ep]
              refine ⟨fun e => absurd rfl e, fun _ => ?_⟩
              have := w1 c59
              refine ⟨this.1, ?_⟩
              unfold plDay
              rw [if_neg g5]
              exact this.2
            · have ep : plOne (yT B n) (yV B n) k = (1, k + 1, (kI 0, kI 0)) := by
                unfold plOne
                rw [if_neg nT, if_pos c59]
              rw [ep]
              exact ⟨fun _ => w2 c59, fun e => absurd e (show ¬ (1 : Nat) = 0 by decide)⟩
          · -- stir
            rw [ht] at g5
            have g5 := Classical.not_not.mp g5
            have hD := tIf_n (by rw [ht]; exact nn g5) hD
            obtain ⟨v1, M2, h183, hD⟩ := hD
            obtain ⟨r1, r2⟩ := rd (kI 1) (Or.inr g5) (by rw [if_pos g5]) v1 M2 h183
            rcases hD with ⟨g6, hD⟩ | ⟨g6, hv, hN⟩
            · obtain ⟨o1, o2, o3, o4, o5⟩ := r2 g6
              have hD := tIf_n (by rw [ht]; exact nn g5) hD
              obtain ⟨M3, e3, v3, M4, h176, hv, hN⟩ := hD
              obtain ⟨p1', p2', p3', p4'⟩ := stirP M2 o4 o5 o1.2.2.1 o1.2.2.2 M3 e3
              subst hN
              obtain ⟨w1, w2⟩ := sg M2 M3 (k + 2) _ v3 p1' p2' p3' p4' h176 hv
              by_cases c59 : yT B n (k + 2) = kI 59
              · have ep : plOne (yT B n) (yV B n) k = (0, k + 3, (yT B n k, yV B n (k + 1))) := by
                  unfold plOne
                  rw [if_pos (Or.inr g5), if_neg (nn o2), if_neg (nn (by rw [if_pos g5]; exact o3)), if_neg (nn c59)]
                rw [ep]
                refine ⟨fun e => absurd rfl e, fun _ => ?_⟩
                have := w1 c59
                refine ⟨this.1, ?_⟩
                unfold plDay
                rw [if_pos g5]
                exact this.2
              · have ep : plOne (yT B n) (yV B n) k = (1, k + 2, (kI 0, kI 0)) := by
                  unfold plOne
                  rw [if_pos (Or.inr g5), if_neg (nn o2), if_neg (nn (by rw [if_pos g5]; exact o3)), if_pos c59]
                rw [ep]
                exact ⟨fun _ => w2 c59, fun e => absurd e (show ¬ (1 : Nat) = 0 by decide)⟩
            · have := r1 (Classical.not_not.mp g6) hv hN
              exact ⟨fun _ => this.2, fun e => absurd e this.1⟩
      · rw [i_lt, hp, kI_toInt (by decide) (by decide)] at g3
        obtain ⟨r1, r2, r3, r4⟩ := D_173_w h hD
        subst hN
        exact ⟨fun _ => ⟨hv.trans r1, r3, r4⟩, fun e => by omega⟩
    · rw [ht, i_le, kI_toInt (by decide) (by decide)] at g2
      obtain ⟨r1, r2, r3, r4⟩ := D_173_w h hD
      subst hN
      exact ⟨fun _ => ⟨hv.trans r1, r3, r4⟩, fun q => absurd (Or.inr (by omega)) q⟩
theorem pl_m {T V : Nat → Int32} (m k : Nat) (h1 : ¬ T k = kI 101) (h2 : (T k).toInt < 24 ∨ 28 < (T k).toInt) : plL T V m k = (1, k, []) := by
  cases m with
  | zero =>
    unfold plL
    rw [if_neg h1, if_pos h2]
  | succ m =>
    unfold plL
    rw [if_neg h1, if_pos h2]
theorem pl_end {T V : Nat → Int32} (m k : Nat) (h1 : T k = kI 101) : plL T V m k = (0, k, []) := by
  cases m with
  | zero =>
    unfold plL
    rw [if_pos h1]
  | succ m =>
    unfold plL
    rw [if_pos h1]
theorem plDay_len {q : List (Int32 × Int32 × Int32) × Int32} {w : Int32 × Int32} : (plDay q w).1.length ≤ q.1.length + 1 := by
  unfold plDay
  split
  · exact Nat.le_succ _
  · rw [List.length_append]
    exact Nat.le_refl _
/-- what readPlan does with plan pl, from some token on -/
def rdPl (M N : pMem) (B : Nat → Int32) (n pl line m k : Nat) (q : List (Int32 × Int32 × Int32) × Int32) (v : Int32) : Prop :=
  ((plL (yT B n) (yV B n) m k).1 = 0 → v.toInt = (line + (plL (yT B n) (yV B n) m k).2.2.length : Nat) ∧ N 6 4 = M 6 4 ∧ N 6 5 = M 6 5 ∧ pdOk N pl ((plL (yT B n) (yV B n) m k).2.2.foldl plDay q).1) ∧
  (¬ (plL (yT B n) (yV B n) m k).1 = 0 → v = kI (-1) ∧ N 6 4 = kI (plL (yT B n) (yV B n) m k).1 ∧ N 6 5 = kI (xSt B n (plL (yT B n) (yV B n) m k).2.1) ∧ N pl 0 = M pl 0 ∧ ∀ i, N (pl + 1) i = M (pl + 1) i ∧ N (pl + 2) i = M (pl + 2) i ∧ N (pl + 3) i = M (pl + 3) i)
theorem D_161_w {M : pMem} {pl : Nat} (hpl : pl = 37 ∨ pl = 48 ∨ pl = 59 ∨ pl = 70) {l : List (Int32 × Int32 × Int32)} (hl : l.length ≤ 24) (h : pdOk M 14 l) {v : Unit} {N : pMem} (hD : D_161 pl 14 M v N) : pdOk N pl l ∧ N 6 = M 6 := by
  obtain ⟨M1, e1, M2, e2, M3, e3, M4, e4, _, rfl⟩ := hD
  have k24 : ix (kI 24) = 24 := rfl
  have k0 : ix (kI 0) = 0 := rfl
  rw [k24, k0] at e2 e3 e4
  have c15 : M1 15 = M 15 := by rw [e1]; funext i; exact aPut_cell (by omega)
  have c16 : M2 16 = M 16 := by rw [e2, aRow_cell (by omega), e1]; funext i; exact aPut_cell (by omega)
  have c17 : M3 17 = M 17 := by rw [e3, aRow_cell (by omega), e2, aRow_cell (by omega), e1]; funext i; exact aPut_cell (by omega)
  refine ⟨⟨?_, fun i x hx => ?_⟩, ?_⟩
  · rw [e4, aRow_cell (by omega), e3, aRow_cell (by omega), e2, aRow_cell (by omega), e1, aPut_same]
    exact h.1
  · have hi : i < 24 := by
      have := (List.getElem?_eq_some_iff.mp hx).1
      omega
    obtain ⟨h1, h2, h3⟩ := h.2 i x hx
    have cp : ∀ f g : Nat → Int32, va_cpy f g 0 0 24 i = f i := fun f g => by
      unfold va_cpy
      rw [if_pos ⟨Nat.zero_le _, by omega⟩]
      congr 1
      omega
    refine ⟨?_, ?_, ?_⟩
    · rw [e4, aRow_cell (by omega), e3, aRow_cell (by omega), e2, aRow_same', cp]
      show M1 15 i = _
      rw [c15]
      exact h1
    · rw [e4, aRow_cell (by omega), e3, aRow_same', cp]
      show M2 16 i = _
      rw [c16]
      exact h2
    · rw [e4, aRow_same', cp]
      show M3 17 i = _
      rw [c17]
      exact h3
  · rw [e4, aRow_cell (by omega), e3, aRow_cell (by omega), e2, aRow_cell (by omega), e1]
    funext i
    exact aPut_cell (by omega)
theorem D_181_w {M0 : pMem} {B : Nat → Int32} {n c pl : Nat} (hpl : pl = 37 ∨ pl = 48 ∨ pl = 59 ∨ pl = 70) (h : rdR M0 B n c 0) {v : Int32} {N : pMem} (hD : D_181 pl M0 v N) : rdPl M0 N B n pl 0 24 0 ([], kI (-1)) v := by
  obtain ⟨_, M1, h162, hD⟩ := hD
  have f1 := F_162 (show pK 3 14 = true by decide +kernel) h162
  obtain ⟨Ma, ea, Mb, eb, _, hM1⟩ := h162
  have z1 : rdR M1 B n c 0 := zR_fr h f1 (fun j => rfl) (by rw [f1 6 3 (by decide) rfl rfl]; exact h.2.2.2.2.1)
  have d1 : pdD M1 ([], kI (-1)) := by
    refine ⟨⟨?_, fun i x hx => by cases hx⟩, ?_⟩
    · rw [hM1, eb, aPut_at (by decide), ea, aPut_same]
      rfl
    · rw [hM1, eb, aPut_same]
  have hne : ∀ j, pl ≠ 14 ∧ pl + 1 ≠ 14 ∧ pl + 2 ≠ 14 ∧ pl + 3 ≠ 14 := fun j => by omega
  have g := (hD (fun x2 M v N => ∀ (line m k : Nat) (q : List (Int32 × Int32 × Int32) × Int32), x2.toInt = line → line + m = 24 → q.1.length ≤ line → rdR M B n c k → pdD M q → rdPl M N B n pl line m k q v) ?_) 0 24 0 ([], kI (-1)) rfl rfl (Nat.le_refl _) z1 d1
  · -- over the clearing
    have r : ∀ a j, a ≠ 14 → a < 230 → pScr a j = false → M1 a j = M0 a j := fun a j h1 h2 h3 => f1 a j h2 h3 (by
      show (!(Nat.beq 14 a && _) && (!(Nat.beq 14 a && _) && true)) = true
      rw [show Nat.beq 14 a = false from Bool.eq_false_iff.mpr fun q => h1 (Nat.eq_of_beq_eq_true q).symm]
      rfl)
    obtain ⟨g1, g2⟩ := g
    refine ⟨fun e => ?_, fun e => ?_⟩
    · obtain ⟨a1, a2, a3, a4⟩ := g1 e
      exact ⟨a1, by rw [a2]; exact r 6 4 (by decide) (by decide) rfl, by rw [a3]; exact r 6 5 (by decide) (by decide) rfl, a4⟩
    · obtain ⟨a1, a2, a3, a4, a5⟩ := g2 e
      refine ⟨a1, a2, a3, ?_, fun i => ?_⟩
      · rw [a4]
        rcases hpl with rfl | rfl | rfl | rfl <;> exact r _ _ (by decide) (by decide) rfl
      · rw [(a5 i).1, (a5 i).2.1, (a5 i).2.2]
        rcases hpl with rfl | rfl | rfl | rfl <;> exact ⟨r _ _ (by decide) (by decide) rfl, r _ _ (by decide) (by decide) rfl, r _ _ (by decide) (by decide) rfl⟩
  · intro x2 M v N hs line m k q hx hm hl hz hd
    have ht := (zR_t hz).1
    have fin : yT B n k = kI 101 → (tCall (D_161 pl 14 M) fun _ M1 => tRet x2 M1) v N → rdPl M N B n pl line m k q v := by
      rintro e ⟨_, M2, h161, hv, hN⟩
      obtain ⟨w1, w2⟩ := D_161_w hpl (by omega) hd.1 h161
      unfold rdPl
      rw [pl_end m k e]
      refine ⟨fun _ => ?_, fun e => absurd rfl e⟩
      rw [hv, hN]
      exact ⟨hx, congrFun w2 4, congrFun w2 5, w1⟩
    rcases hs with ⟨g, hs⟩ | ⟨g, hs⟩
    · rw [i_lt, hx, kI_toInt (by decide) (by decide)] at g
      omega
    · rw [i_lt, hx, kI_toInt (by decide) (by decide)] at g
      rcases hs with ⟨g2, hs⟩ | ⟨g2, v1, M2, h182, hs⟩
      · rw [ht] at g2
        exact fin g2 hs
      · rw [ht] at g2
        obtain ⟨w1, w2⟩ := D_182_w hz hd hl hx h182
        have f2 := F_182 h182
        have fault : ∀ f k', rdNo B n M2 v1 f k' → ¬ f = 0 → plL (yT B n) (yV B n) m k = (f, k', []) → rdPl M N B n pl line m k q v := by
          intro f k' hz0 hf ep
          rcases hs with ⟨g3, _⟩ | ⟨g3, hv, hN⟩
          · exact absurd hz0.1 g3
          · unfold rdPl
            rw [ep]
            refine ⟨fun e => absurd e hf, fun _ => ?_⟩
            rw [hv, hN]
            have r : ∀ a j, (a = pl ∨ a = pl + 1 ∨ a = pl + 2 ∨ a = pl + 3) → M2 a j = M a j := fun a j ha => by
              rcases hpl with rfl | rfl | rfl | rfl <;> rcases ha with rfl | rfl | rfl | rfl <;> exact f2 _ j (by decide) rfl rfl
            exact ⟨rfl, hz0.2.1, hz0.2.2, r _ _ (Or.inl rfl), fun i => ⟨r _ _ (Or.inr (Or.inl rfl)), r _ _ (Or.inr (Or.inr (Or.inl rfl))), r _ _ (Or.inr (Or.inr (Or.inr rfl)))⟩⟩
        by_cases c1 : (yT B n k).toInt < 24 ∨ 28 < (yT B n k).toInt
        · exact fault 1 k (w1 c1) (by decide) (pl_m m k g2 c1)
        · obtain ⟨w3, w4⟩ := w2 c1
          cases m with
          | zero =>
            refine fault 3 k (w3 (by omega)) (by decide) ?_
            unfold plL
            rw [if_neg g2, if_neg c1]
          | succ m =>
            obtain ⟨w5, w6⟩ := w4 (by omega)
            by_cases c2 : (plOne (yT B n) (yV B n) k).1 = 0
            · obtain ⟨o1, o2⟩ := w6 c2
              rcases hs with ⟨g3, hs⟩ | ⟨g3, _⟩
              · have z2 : rdR M2 B n c (plOne (yT B n) (yV B n) k).2.1 := zR_fr hz f2 (fun j => rfl) o1.2.1
                have r := hs (line + 1) m (plOne (yT B n) (yV B n) k).2.1 (plDay q (plOne (yT B n) (yV B n) k).2.2) (by rw [i_add1 (by omega)]; omega) (by omega) (by have := plDay_len (q := q) (w := (plOne (yT B n) (yV B n) k).2.2); omega) z2 o2
                have ep : plL (yT B n) (yV B n) (m + 1) k = ((plL (yT B n) (yV B n) m (plOne (yT B n) (yV B n) k).2.1).1, (plL (yT B n) (yV B n) m (plOne (yT B n) (yV B n) k).2.1).2.1, (plOne (yT B n) (yV B n) k).2.2 :: (plL (yT B n) (yV B n) m (plOne (yT B n) (yV B n) k).2.1).2.2) := by
                  conv => lhs; unfold plL
                  rw [if_neg g2, if_neg c1, if_pos c2]
                unfold rdPl
                rw [ep]
                obtain ⟨r1, r2⟩ := r
                refine ⟨fun e => ?_, fun e => ?_⟩
                · obtain ⟨a1, a2, a3, a4⟩ := r1 e
                  refine ⟨?_, a2.trans o1.2.2.1, a3.trans o1.2.2.2, a4⟩
                  rw [a1, List.length_cons]
                  omega
                · obtain ⟨a1, a2, a3, a4, a5⟩ := r2 e
                  have r : ∀ a j, (a = pl ∨ a = pl + 1 ∨ a = pl + 2 ∨ a = pl + 3) → M2 a j = M a j := fun a j ha => by
                    rcases hpl with rfl | rfl | rfl | rfl <;> rcases ha with rfl | rfl | rfl | rfl <;> exact f2 _ j (by decide) rfl rfl
                  exact ⟨a1, a2, a3, a4.trans (r _ _ (Or.inl rfl)), fun i => ⟨(a5 i).1.trans (r _ _ (Or.inr (Or.inl rfl))), (a5 i).2.1.trans (r _ _ (Or.inr (Or.inr (Or.inl rfl)))), (a5 i).2.2.trans (r _ _ (Or.inr (Or.inr (Or.inr rfl))))⟩⟩
              · exact absurd (Classical.not_not.mp g3) (by rw [o1.1]; decide)
            · refine fault _ _ (w5 c2) c2 ?_
              conv => lhs; unfold plL
              rw [if_neg g2, if_neg c1, if_neg c2]
