/-! what stands on the tape: both sides read it alike -/
theorem f_202_eq (x : Int32) : f_202 x = f_61 x := by
  unfold f_202 f_61 f_42
  simp only [i_lt, i_le, kI_toInt (n := 97) (by decide) (by decide), kI_toInt (n := 122) (by decide) (by decide), kI_toInt (n := 65) (by decide) (by decide), kI_toInt (n := 90) (by decide) (by decide)]
  by_cases h1 : x.toInt < 97
  · by_cases h2 : x.toInt < 65
    · simp [h1, h2, kIz]
    · by_cases h3 : 90 < x.toInt
      · simp [h1, h2, h3, kIz]
      · simp [h1, h2, h3, kIz]
  · by_cases h2 : x.toInt ≤ 122
    · simp [h1, h2, kIz, show ¬ 122 < x.toInt by omega, show ¬ kI 1 = (0 : Int32) by decide]
    · simp [h1, h2, kIz, show 122 < x.toInt by omega, show ¬ x.toInt < 65 by omega, show 90 < x.toInt by omega]
theorem f_203_eq (x : Int32) : f_203 x = f_62 x := rfl
theorem f_204_eq (x : Int32) : f_204 x = f_63 x := by
  unfold f_204 f_63
  simp only [i_lt, i_le, i_eq, kI_toInt (n := 59) (by decide) (by decide), kI_toInt (n := 43) (by decide) (by decide), kI_toInt (n := 45) (by decide) (by decide), kI_toInt (n := 42) (by decide) (by decide), kI_toInt (n := 47) (by decide) (by decide), kI_toInt (n := 40) (by decide) (by decide), kI_toInt (n := 41) (by decide) (by decide), kI_toInt (n := 60) (by decide) (by decide), kI_toInt (n := 61) (by decide) (by decide), kI_toInt (n := 62) (by decide) (by decide)]
  generalize x.toInt = z
  repeat' split
  all_goals first | rfl | (exfalso; omega)
/-- a run of signs -/
def xRun (f : Int32 → Bool) (B : Nat → Int32) (n : Nat) : Nat → Nat → Nat
  | 0, p => p
  | k + 1, p => if p < n ∧ f (B p) = true then xRun f B n k (p + 1) else p
def xEnd (f : Int32 → Bool) (B : Nat → Int32) (n p : Nat) : Nat := xRun f B n (n - p) p
theorem xEnd_eq {f : Int32 → Bool} {B : Nat → Int32} {n p : Nat} : xEnd f B n p = if p < n ∧ f (B p) = true then xEnd f B n (p + 1) else p := by
  unfold xEnd
  by_cases h : p < n
  · rw [show n - p = (n - (p + 1)) + 1 by omega]
    rfl
  · rw [show n - p = 0 by omega, if_neg (fun q => h q.1)]
    rfl
theorem xEnd_le {f : Int32 → Bool} {B : Nat → Int32} {n : Nat} : ∀ {k p : Nat}, n - p = k → p ≤ xEnd f B n p ∧ (p ≤ n → xEnd f B n p ≤ n) := by
  intro k
  induction k with
  | zero =>
    intro p h
    rw [xEnd_eq, if_neg (fun q => by omega)]
    exact ⟨Nat.le_refl _, fun q => q⟩
  | succ k ih =>
    intro p h
    rw [xEnd_eq]
    split
    · have := ih (p := p + 1) (by omega)
      exact ⟨by omega, fun _ => this.2 (by omega)⟩
    · exact ⟨Nat.le_refl _, fun q => q⟩
theorem xEnd_in {f : Int32 → Bool} {B : Nat → Int32} {n : Nat} : ∀ {k p : Nat}, n - p = k → ∀ i, p ≤ i → i < xEnd f B n p → f (B i) = true := by
  intro k
  induction k with
  | zero =>
    intro p h i h1 h2
    rw [xEnd_eq, if_neg (fun q => by omega)] at h2
    omega
  | succ k ih =>
    intro p h i h1 h2
    rw [xEnd_eq] at h2
    split at h2
    · rename_i c
      by_cases e : i = p
      · rw [e]
        exact c.2
      · exact ih (p := p + 1) (by omega) i (by omega) h2
    · omega
theorem xEnd_out {f : Int32 → Bool} {B : Nat → Int32} {n : Nat} : ∀ {k p : Nat}, n - p = k → p ≤ n → xEnd f B n p < n → f (B (xEnd f B n p)) = false := by
  intro k
  induction k with
  | zero =>
    intro p h h1 h2
    rw [xEnd_eq, if_neg (fun q => by omega)] at h2
    omega
  | succ k ih =>
    intro p h h1 h2
    rw [xEnd_eq] at h2 ⊢
    split
    · rename_i c
      rw [if_pos c] at h2
      exact ih (p := p + 1) (by omega) (by omega) h2
    · rename_i c
      rw [if_neg c] at h2
      cases e : f (B p)
      · rfl
      · exact absurd ⟨h2, e⟩ c
def xLt (x : Int32) : Bool := !decide (f_61 x = 0)
def xDg (x : Int32) : Bool := !decide (f_62 x = 0)
def xBl (x : Int32) : Bool := decide (x = kI 32) || decide (x = kI 10)
theorem xLt_t {x : Int32} : xLt x = true ↔ ¬ f_61 x = 0 := by
  unfold xLt
  simp
theorem xDg_t {x : Int32} : xDg x = true ↔ ¬ f_62 x = 0 := by
  unfold xDg
  simp
theorem xLt_rg {x : Int32} (h : xLt x = true) : (97 ≤ x.toInt ∧ x.toInt ≤ 122) ∨ (65 ≤ x.toInt ∧ x.toInt ≤ 90) := by
  rw [xLt_t] at h
  unfold f_61 at h
  split at h
  · rename_i c
    rw [f_42_iff] at c
    simp only [i_le, kI_toInt (n := 97) (by decide) (by decide), kI_toInt (n := 122) (by decide) (by decide)] at c
    exact Or.inl c
  · split at h
    · exact absurd rfl h
    · rename_i c
      replace c := f_42_iff.mp c
      simp only [i_le, kI_toInt (n := 65) (by decide) (by decide), kI_toInt (n := 90) (by decide) (by decide)] at c
      exact Or.inr c
theorem xDg_rg {x : Int32} (h : xDg x = true) : 48 ≤ x.toInt ∧ x.toInt ≤ 57 := by
  rw [xDg_t] at h
  unfold f_62 at h
  rw [f_42_iff] at h
  simp only [i_le, kI_toInt (n := 48) (by decide) (by decide), kI_toInt (n := 57) (by decide) (by decide)] at h
  exact h
/-! words: of the strings, and as they stand in the reference's row -/
def wL (j : Nat) : Nat := (aStr.getD j "").length
def wC (j i : Nat) : Int32 := aChr (aStr.getD j "") i
/-- word j stands from p to e -/
def wM (B : Nat → Int32) (p e j : Nat) : Prop := wL j = e - p ∧ ∀ q, q < wL j → wC j q = B (p + q)
theorem wL_le : ∀ j, j < 29 → wL j ≤ 8 ∧ 1 ≤ wL j := by decide +kernel
theorem f_205_at : ∀ j : Nat, j < 29 → f_205 (kI j) = 90001 + j := by decide +kernel
theorem pSl_at {j : Nat} (h : j < 29) : (pSl (90001 + j)).toInt = wL j := by
  unfold pSl
  rw [show 90001 + j - 90001 = j by omega]
  show (Int32.ofNat (wL j)).toInt = _
  have := wL_le j h
  exact Int32.toInt_ofNat_of_lt (by omega)
theorem pSc_at {j : Nat} {x : Int32} : pSc (90001 + j) x = wC j (ix x) := by
  unfold pSc
  rw [show 90001 + j - 90001 = j by omega]
  rfl
theorem L_201_w {j p e n : Nat} {p2 p3 : Int32} {M0 : pMem} (hj : j < 29) (hp : p2.toInt = p) (hl : wL j = e - p) (he : e ≤ n) (hn : n ≤ 500) (hM : (M0 1 0).toInt = n) {x4 : Int32} {v : Int32} {N : pMem} (h : L_201_3 (90001 + j) p2 p3 x4 M0 v N) {i : Nat} (hx : x4.toInt = i) (hi : i ≤ wL j) :
    N = M0 ∧ ((v = kI 1 ∧ ∀ q, i ≤ q → q < wL j → wC j q = M0 2 (p + q)) ∨ (v = kI 0 ∧ ∃ q, q < wL j ∧ ¬ wC j q = M0 2 (p + q))) := by
  have := wL_le j hj
  refine h (fun x4 M v N => M = M0 → ∀ i : Nat, x4.toInt = i → i ≤ wL j → N = M0 ∧ ((v = kI 1 ∧ ∀ q, i ≤ q → q < wL j → wC j q = M0 2 (p + q)) ∨ (v = kI 0 ∧ ∃ q, q < wL j ∧ ¬ wC j q = M0 2 (p + q)))) ?_ rfl i hx hi
  clear hx hi h
  intro x4 M v N hs hM0 i hx hi
  subst hM0
  rcases hs with ⟨g, hv, hN⟩ | ⟨g, hs⟩
  · rw [i_le, pSl_at hj, hx] at g
    refine ⟨hN, Or.inl ⟨hv, fun q h1 h2 => by omega⟩⟩
  · rw [i_le, pSl_at hj, hx] at g
    have e1 : (p2 + x4).toInt = ((p + i : Nat) : Int) := by
      rw [i_add (by omega) (by omega)]
      omega
    have e2 : f_198 (p2 + x4) M = M 2 (p + i) := by
      unfold f_198
      simp only [i_lt, i_le, e1, hM, kI_toInt (n := 500) (by decide) (by decide), i_0]
      rw [if_neg (by omega), if_neg (by omega), if_neg (by omega), ix_of e1]
    rcases hs with ⟨g2, hs⟩ | ⟨g2, hv, hN⟩
    · rw [pSc_at, e2, ix_of hx] at g2
      have hs : M = M → ∀ i : Nat, (x4 + kI 1).toInt = i → i ≤ wL j → _ := hs
      obtain ⟨r1, r2⟩ := hs rfl (i + 1) (by rw [i_add1 (by omega)]; omega) (by omega)
      refine ⟨r1, ?_⟩
      rcases r2 with ⟨r2, r3⟩ | r2
      · refine Or.inl ⟨r2, fun q h1 h2 => ?_⟩
        by_cases e : q = i
        · rw [e]
          exact g2
        · exact r3 q (by omega) h2
      · exact Or.inr r2
    · rw [pSc_at, e2, ix_of hx] at g2
      exact ⟨hN, Or.inr ⟨hv, i, by omega, g2⟩⟩
theorem D_201_w {j p e n : Nat} {p2 p3 : Int32} {M : pMem} (hj : j < 29) (hp : p2.toInt = p) (h3 : p3.toInt = e) (hpe : p ≤ e) (he : e ≤ n) (hn : n ≤ 500) (hM : (M 1 0).toInt = n) {v : Int32} {N : pMem} (h : D_201 (90001 + j) p2 p3 M v N) : N = M ∧ ((v = kI 1 ∧ wM (M 2) p e j) ∨ (v = kI 0 ∧ ¬ wM (M 2) p e j)) := by
  have hw := wL_le j hj
  have e3 : (p3 - p2).toInt = e - p := by rw [i_sub (by omega) (by omega)]; omega
  rcases h with ⟨g, h⟩ | ⟨g, hv, hN⟩
  · rw [i_eq, pSl_at hj, e3] at g
    have hl : wL j = e - p := by omega
    obtain ⟨r1, r2⟩ := L_201_w hj hp hl he hn hM h (i := 0) rfl (Nat.zero_le _)
    refine ⟨r1, r2.imp (fun r => ⟨r.1, hl, fun q hq => r.2 q (Nat.zero_le _) hq⟩) (fun r => ⟨r.1, fun w => ?_⟩)⟩
    obtain ⟨q, hq, hne⟩ := r.2
    exact hne (w.2 q hq)
  · rw [i_eq, pSl_at hj, e3] at g
    exact ⟨hN, Or.inr ⟨hv, fun w => g (by rw [w.1]; omega)⟩⟩
/-- the first word that stands there -/
def wW (B : Nat → Int32) (p e : Nat) (v : Int32) : Prop := (∃ j : Nat, j < 29 ∧ v = kI j ∧ wM B p e j) ∨ (v = kI 102 ∧ ∀ j, j < 29 → ¬ wM B p e j)
theorem D_200_w {p e n : Nat} {p2 p3 : Int32} {M : pMem} (hp : p2.toInt = p) (h3 : p3.toInt = e) (hpe : p ≤ e) (he : e ≤ n) (hn : n ≤ 500) (hM : (M 1 0).toInt = n) {v : Int32} {N : pMem} (h : D_200 p2 p3 M v N) : N = M ∧ wW (M 2) p e v := by
  refine (h (fun x3 M' v N => M' = M → ∀ i : Nat, x3.toInt = i → i ≤ 29 → (∀ j, j < i → ¬ wM (M 2) p e j) → N = M ∧ wW (M 2) p e v) ?_) rfl 0 rfl (by omega) (fun j hj => by omega)
  intro x3 M' v N hs hM0 i hx hi hno
  subst hM0
  rcases hs with ⟨g, hv, hN⟩ | ⟨g, v1, M1, hD, hs⟩
  · rw [i_lt, kI_toInt (by decide) (by decide), hx] at g
    exact ⟨hN, Or.inr ⟨hv, fun j hj => hno j (by omega)⟩⟩
  · rw [i_lt, kI_toInt (by decide) (by decide), hx] at g
    have ex : x3 = kI i := kI_inj hx
    rw [ex, f_205_at i (by omega)] at hD
    obtain ⟨rfl, r⟩ := D_201_w (by omega) hp h3 hpe he hn hM hD
    rcases hs with ⟨g2, hs⟩ | ⟨g2, hv, hN⟩
    · have hs : M1 = M1 → ∀ i : Nat, (x3 + kI 1).toInt = i → i ≤ 29 → (∀ j, j < i → ¬ wM (M1 2) p e j) → N = M1 ∧ wW (M1 2) p e v := hs
      refine hs rfl (i + 1) (by rw [i_add1 (by omega)]; omega) (by omega) (fun j hj => ?_)
      by_cases e1 : j = i
      · rw [e1]
        rcases r with r | r
        · rw [r.1] at g2
          exact absurd g2 (by decide)
        · exact r.2
      · exact hno j (by omega)
    · rcases r with r | r
      · exact ⟨hN, Or.inl ⟨i, by omega, hv.trans ex, r.2⟩⟩
      · exact absurd r.1 g2
/-! numbers on the tape -/
def xV (B : Nat → Int32) (p : Nat) : Nat → Int32
  | 0 => kI 0
  | k + 1 => ((xV B p k * kI 10) + B (p + k)) - kI 48
theorem f_198_at {M : pMem} {x : Int32} {p n : Nat} (hx : x.toInt = p) (hp : p < n) (hn : n ≤ 500) (hM : (M 1 0).toInt = n) : f_198 x M = M 2 p := by
  unfold f_198
  simp only [i_lt, i_le, hx, hM, kI_toInt (n := 500) (by decide) (by decide), i_0]
  rw [if_neg (by omega), if_neg (by omega), if_neg (by omega), ix_of hx]
theorem D_199_w {p e n : Nat} {p2 p3 : Int32} {M : pMem} (hp : p2.toInt = p) (h3 : p3.toInt = e) (hpe : p ≤ e) (he : e ≤ n) (hn : n ≤ 500) (hM : (M 1 0).toInt = n) {v : Int32} {N : pMem} (h : D_199 p2 p3 M v N) : N = M ∧ v = xV (M 2) p (e - p) := by
  refine (h (fun x3 x4 M' v N => M' = M → ∀ i : Nat, x4.toInt = i → p ≤ i → i ≤ e → x3 = xV (M 2) p (i - p) → N = M ∧ v = xV (M 2) p (e - p)) ?_) rfl p hp (Nat.le_refl _) hpe (by rw [Nat.sub_self]; rfl)
  intro x3 x4 M' v N hs hM0 i hx h1 h2 hv3
  subst hM0
  rcases hs with ⟨g, hv, hN⟩ | ⟨g, hs⟩
  · rw [i_le, h3, hx] at g
    refine ⟨hN, ?_⟩
    rw [hv, hv3, show i = e by omega]
  · rw [i_le, h3, hx] at g
    rw [f_198_at hx (by omega) hn hM] at hs
    have hs : M' = M' → ∀ i : Nat, (x4 + kI 1).toInt = i → p ≤ i → i ≤ e → _ := hs
    refine hs rfl (i + 1) (by rw [i_add1 (by omega)]; omega) (by omega) (by omega) ?_
    rw [show i + 1 - p = (i - p) + 1 by omega, hv3]
    show _ = xV (M' 2) p (i - p) * kI 10 + M' 2 (p + (i - p)) - kI 48
    rw [show p + (i - p) = i by omega]
theorem xV_rg {B : Nat → Int32} {p : Nat} : ∀ {k : Nat}, (∀ i, i < k → xDg (B (p + i)) = true) → k ≤ 4 → 0 ≤ (xV B p k).toInt ∧ (xV B p k).toInt < 10 ^ k := by
  intro k
  induction k with
  | zero => intro _ _; exact ⟨by show (0 : Int) ≤ (kI 0).toInt; decide, by show (kI 0).toInt < 10 ^ 0; decide⟩
  | succ k ih =>
    intro h1 h2
    obtain ⟨r1, r2⟩ := ih (fun i hi => h1 i (by omega)) (by omega)
    have d := xDg_rg (h1 k (by omega))
    have b : (10 : Int) ^ k ≤ 1000 := by
      have : k = 0 ∨ k = 1 ∨ k = 2 ∨ k = 3 := by omega
      rcases this with rfl | rfl | rfl | rfl <;> decide
    have e10 : (kI 10).toInt = 10 := rfl
    have e48 : (kI 48).toInt = 48 := rfl
    have m1 : (xV B p k * kI 10).toInt = (xV B p k).toInt * 10 := by rw [i_mul (by rw [e10]; omega) (by rw [e10]; omega), e10]
    have m2 : (xV B p k * kI 10 + B (p + k)).toInt = (xV B p k).toInt * 10 + (B (p + k)).toInt := by rw [i_add (by rw [m1]; omega) (by rw [m1]; omega), m1]
    have m3 : (xV B p (k + 1)).toInt = (xV B p k).toInt * 10 + (B (p + k)).toInt - 48 := by
      show (xV B p k * kI 10 + B (p + k) - kI 48).toInt = _
      rw [i_sub (by rw [m2, e48]; omega) (by rw [m2, e48]; omega), m2, e48]
    rw [m3]
    have e : (10 : Int) ^ (k + 1) = 10 ^ k * 10 := rfl
    rw [e]
    omega
/-! the tokens -/
def wB (B : Nat → Int32) (p e j : Nat) : Bool := decide (wL j = e - p) && (List.range (wL j)).all fun q => decide (wC j q = B (p + q))
theorem wB_t {B : Nat → Int32} {p e j : Nat} : wB B p e j = true ↔ wM B p e j := by
  unfold wB wM
  simp [List.all_eq_true]
def xWd (B : Nat → Int32) (p e : Nat) : Int32 := match (List.range 29).find? (wB B p e) with
  | some j => kI j
  | none => kI 102
theorem w_one : ∀ j, j < 29 → ∀ i, i < 29 → wL j = wL i → (∀ q, q < wL j → wC j q = wC i q) → j = i := by decide +kernel
theorem wM_one {B : Nat → Int32} {p e j i : Nat} (hj : j < 29) (hi : i < 29) (h1 : wM B p e j) (h2 : wM B p e i) : j = i :=
  w_one j hj i hi (h1.1.trans h2.1.symm) (fun q hq => (h1.2 q hq).trans (h2.2 q (by rw [h2.1, ← h1.1]; exact hq)).symm)
theorem xWd_some {B : Nat → Int32} {p e j : Nat} (hj : j < 29) (h : wM B p e j) : xWd B p e = kI j := by
  unfold xWd
  cases c : (List.range 29).find? (wB B p e) with
  | none =>
    have := List.find?_eq_none.mp c j (List.mem_range.mpr hj)
    exact absurd (wB_t.mpr h) this
  | some i =>
    have h1 := List.find?_some c
    have h2 := List.mem_range.mp (List.mem_of_find?_eq_some c)
    rw [wM_one h2 hj (wB_t.mp h1) h]
theorem xWd_none {B : Nat → Int32} {p e : Nat} (h : ∀ j, j < 29 → ¬ wM B p e j) : xWd B p e = kI 102 := by
  unfold xWd
  cases c : (List.range 29).find? (wB B p e) with
  | none => rfl
  | some i =>
    have h1 := List.find?_some c
    have h2 := List.mem_range.mp (List.mem_of_find?_eq_some c)
    exact absurd (wB_t.mp h1) (h i h2)
theorem wW_e {B : Nat → Int32} {p e : Nat} {v : Int32} (h : wW B p e v) : v = xWd B p e := by
  rcases h with ⟨j, hj, rfl, h⟩ | ⟨rfl, h⟩
  · exact (xWd_some hj h).symm
  · exact (xWd_none h).symm
def xNx (B : Nat → Int32) (n p : Nat) : Nat := if xLt (B p) then xEnd xLt B n (p + 1) else if xDg (B p) then xEnd xDg B n (p + 1) else p + 1
def xTk (B : Nat → Int32) (n p : Nat) : Int32 := if xLt (B p) then xWd B p (xEnd xLt B n (p + 1)) else if xDg (B p) then (if xEnd xDg B n (p + 1) - p ≤ 4 then kI 100 else kI 102) else if f_63 (B p) = 0 then kI 102 else B p
def xVl (B : Nat → Int32) (n p : Nat) : Int32 := if xLt (B p) then kI 0 else if xDg (B p) then xV B p (xEnd xDg B n (p + 1) - p) else kI 0
theorem xNx_rg {B : Nat → Int32} {n p : Nat} (h : p < n) : p < xNx B n p ∧ xNx B n p ≤ n := by
  unfold xNx
  have a := xEnd_le (f := xLt) (B := B) (n := n) (p := p + 1) rfl
  have b := xEnd_le (f := xDg) (B := B) (n := n) (p := p + 1) rfl
  split
  · exact ⟨by omega, a.2 (by omega)⟩
  · split
    · exact ⟨by omega, b.2 (by omega)⟩
    · omega
def xSk (B : Nat → Int32) (n p : Nat) : Nat := xEnd xBl B n p
def xSt (B : Nat → Int32) (n : Nat) : Nat → Nat
  | 0 => xSk B n 0
  | k + 1 => if xSt B n k < n then xSk B n (xNx B n (xSt B n k)) else n
theorem xSk_le {B : Nat → Int32} {n p : Nat} (h : p ≤ n) : p ≤ xSk B n p ∧ xSk B n p ≤ n := by
  have := xEnd_le (f := xBl) (B := B) (n := n) (p := p) rfl
  exact ⟨this.1, this.2 h⟩
theorem xSk_n {B : Nat → Int32} {n : Nat} : xSk B n n = n := by
  unfold xSk
  rw [xEnd_eq, if_neg (fun q => Nat.lt_irrefl _ q.1)]
theorem xSk_bl {B : Nat → Int32} {n p : Nat} (h : p < n) (hb : xBl (B p) = true) : xSk B n p = xSk B n (p + 1) := by
  unfold xSk
  rw [xEnd_eq, if_pos ⟨h, hb⟩]
theorem xSk_no {B : Nat → Int32} {n p : Nat} (hb : xBl (B p) = false) : xSk B n p = p := by
  unfold xSk
  rw [xEnd_eq, if_neg (fun q => by rw [hb] at q; cases q.2)]
theorem xSk_out {B : Nat → Int32} {n p : Nat} (h : p ≤ n) (h2 : xSk B n p < n) : xBl (B (xSk B n p)) = false := xEnd_out rfl h h2
theorem xSt_le {B : Nat → Int32} {n : Nat} : ∀ k, xSt B n k ≤ n := by
  intro k
  induction k with
  | zero => exact (xSk_le (Nat.zero_le _)).2
  | succ k ih =>
    unfold xSt
    split
    · rename_i c
      exact (xSk_le (xNx_rg c).2).2
    · exact Nat.le_refl _
theorem xBl_no {x : Int32} (h : xBl x = true) : xLt x = false ∧ xDg x = false := by
  have e : x.toInt = 32 ∨ x.toInt = 10 := by
    unfold xBl at h
    simp only [Bool.or_eq_true, decide_eq_true_eq] at h
    rcases h with rfl | rfl
    · exact Or.inl rfl
    · exact Or.inr rfl
  constructor
  · cases c : xLt x
    · rfl
    · have := xLt_rg c
      omega
  · cases c : xDg x
    · rfl
    · have := xDg_rg c
      omega
def xPut (M : pMem) (c : Nat) (t pl v : Int32) : pMem := aPut (aPut (aPut (aPut M 3 c t) 4 c pl) 5 c v) 1 1 (kI (c + 1 : Nat))
theorem D_197_w {p1 p2 p3 : Int32} {M : pMem} {c : Nat} (hc : (M 1 1).toInt = c) (h5 : c < 500) {v : Unit} {N : pMem} (h : D_197 p1 p2 p3 M v N) : N = xPut M c p1 p2 p3 := by
  rcases h with ⟨g, _⟩ | ⟨g, h⟩
  · rw [i_lt, hc, i_0] at g
    omega
  · rcases h with ⟨g2, _⟩ | ⟨g2, h⟩
    · rw [i_le, hc, kI_toInt (by decide) (by decide)] at g2
      omega
    · obtain ⟨_, M1, e1, _, M2, e2, _, M3, e3, M4, e4, _, rfl⟩ := h
      have a1 : M1 1 1 = M 1 1 := by rw [e1]; exact aPut_cell (by decide)
      have a2 : M2 1 1 = M 1 1 := by rw [e2, aPut_cell (by decide)]; exact a1
      have a3 : M3 1 1 = M 1 1 := by rw [e3, aPut_cell (by decide)]; exact a2
      rw [e4, e3, e2, e1, ix_of hc]
      rw [show M3 1 1 = M 1 1 from a3] at e4
      rw [show aPut M 3 c p1 1 1 = M 1 1 from aPut_cell (by decide)]
      rw [show aPut (aPut M 3 c p1) 4 (ix (M 1 1)) p2 1 1 = M 1 1 from (aPut_cell (by decide)).trans (aPut_cell (by decide))]
      rw [show aPut (aPut (aPut M 3 c p1) 4 (ix (M 1 1)) p2) 5 (ix (M 1 1)) p3 1 1 = M 1 1 from (aPut_cell (by decide)).trans ((aPut_cell (by decide)).trans (aPut_cell (by decide)))]
      rw [ix_of hc]
      unfold xPut
      rw [show M 1 1 + kI 1 = kI (c + 1 : Nat) from kI_inj (by rw [i_add1 (by omega), hc]; omega)]
theorem xPut_old {M : pMem} {c : Nat} {t pl v : Int32} {a j : Nat} (h1 : ¬ (a = 1 ∧ j = 1)) (h3 : ¬ ((a = 3 ∨ a = 4 ∨ a = 5) ∧ j = c)) : xPut M c t pl v a j = M a j := by
  unfold xPut aPut
  by_cases e1 : a = 1
  · subst e1
    simp [show ¬ j = 1 from fun q => h1 ⟨rfl, q⟩]
  · by_cases e3 : j = c
    · simp [e1, show ¬ a = 3 from fun q => h3 ⟨Or.inl q, e3⟩, show ¬ a = 4 from fun q => h3 ⟨Or.inr (Or.inl q), e3⟩, show ¬ a = 5 from fun q => h3 ⟨Or.inr (Or.inr q), e3⟩]
    · simp [e1, e3]
theorem xPut_new {M : pMem} {c : Nat} {t pl v : Int32} : xPut M c t pl v 1 1 = kI (c + 1 : Nat) ∧ xPut M c t pl v 3 c = t ∧ xPut M c t pl v 4 c = pl ∧ xPut M c t pl v 5 c = v := by
  unfold xPut aPut
  simp
/-- what findToken does at a place -/
def xOne (M : pMem) (n p c : Nat) (N : pMem) : Prop := if xBl (M 2 p) = true then N = M else N = xPut M c (xTk (M 2) n p) (kI p) (xVl (M 2) n p)
theorem D_196_w {p n c : Nat} {p1 : Int32} {M : pMem} (hp : p1.toInt = p) (hn : n ≤ 500) (hpn : p < n) (hM : (M 1 0).toInt = n) (hc : (M 1 1).toInt = c) (h5 : c < 500) {v : Int32} {N : pMem} (h : D_196 p1 M v N) : v.toInt = xNx (M 2) n p ∧ xOne M n p c N := by
  have es : f_198 p1 M = M 2 p := f_198_at hp hpn hn hM
  have ep : p1 = kI p := kI_inj hp
  -- letters behind
  have hL : ∀ (x3 : Int32) (v : Int32) (N : pMem), L_196_1 p1 x3 M v N → ∀ i : Nat, x3.toInt = i → p < i → i ≤ n → v.toInt = xEnd xLt (M 2) n i ∧ N = xPut M c (xWd (M 2) p (xEnd xLt (M 2) n i)) (kI p) (kI 0) := by
    intro x3 v N h
    refine (h (fun x3 M' v N => M' = M → ∀ i : Nat, x3.toInt = i → p < i → i ≤ n → v.toInt = xEnd xLt (M 2) n i ∧ N = xPut M c (xWd (M 2) p (xEnd xLt (M 2) n i)) (kI p) (kI 0), fun x3 M' v N => True) ⟨?_, fun _ _ _ _ _ => trivial⟩) rfl
    intro x3 M' v N hs hM0 i hx h1 h2
    subst hM0
    have fin : ∀ (h : (tCall (D_200 p1 x3 M') fun v1 M1 => tCall (D_197 v1 p1 (kI 0) M1) fun _ M2 => tRet x3 M2) v N), xEnd xLt (M' 2) n i = i → v.toInt = xEnd xLt (M' 2) n i ∧ N = xPut M' c (xWd (M' 2) p (xEnd xLt (M' 2) n i)) (kI p) (kI 0) := by
      intro h e
      obtain ⟨v1, M1, hD, _, M2, hP, hv, hN⟩ := h
      obtain ⟨rfl, w⟩ := D_200_w hp hx (by omega) h2 hn hM hD
      rw [e, hv, hN, D_197_w hc h5 hP, wW_e w, ep]
      exact ⟨hx, rfl⟩
    rcases hs with ⟨g, hs⟩ | ⟨g, hs⟩
    · rw [i_le, hM, hx] at g
      exact fin hs (by rw [xEnd_eq, if_neg (fun q => by omega)])
    · rw [i_le, hM, hx] at g
      rcases hs with ⟨g2, hs⟩ | ⟨g2, hs⟩
      · rw [f_198_at hx (by omega) hn hM, f_202_eq] at g2
        exact fin hs (by rw [xEnd_eq, if_neg (fun q => xLt_t.mp q.2 g2)])
      · rw [f_198_at hx (by omega) hn hM, f_202_eq] at g2
        have hs : M' = M' → ∀ i : Nat, (x3 + kI 1).toInt = i → p < i → i ≤ n → _ := hs
        have := hs rfl (i + 1) (by rw [i_add1 (by omega)]; omega) (by omega) (by omega)
        rw [xEnd_eq, if_pos ⟨by omega, xLt_t.mpr g2⟩]
        exact this
  have hD : ∀ (x3 : Int32) (v : Int32) (N : pMem), L_196_6 p1 x3 M v N → ∀ i : Nat, x3.toInt = i → p < i → i ≤ n → v.toInt = xEnd xDg (M 2) n i ∧ N = xPut M c (if xEnd xDg (M 2) n i - p ≤ 4 then kI 100 else kI 102) (kI p) (xV (M 2) p (xEnd xDg (M 2) n i - p)) := by
    intro x3 v N h
    refine (h (fun x3 M' v N => True, fun x3 M' v N => M' = M → ∀ i : Nat, x3.toInt = i → p < i → i ≤ n → v.toInt = xEnd xDg (M 2) n i ∧ N = xPut M c (if xEnd xDg (M 2) n i - p ≤ 4 then kI 100 else kI 102) (kI p) (xV (M 2) p (xEnd xDg (M 2) n i - p))) ⟨fun _ _ _ _ _ => trivial, ?_⟩) rfl
    intro x3 M' v N hs hM0 i hx h1 h2
    subst hM0
    have fin : ∀ (h : (tIf ((kI 4) < (x3 - p1)) (tCall (D_199 p1 x3 M') fun v1 M1 => tCall (D_197 (kI 102) p1 v1 M1) fun _ M2 => tRet x3 M2) (tCall (D_199 p1 x3 M') fun v1 M1 => tCall (D_197 (kI 100) p1 v1 M1) fun _ M2 => tRet x3 M2)) v N), xEnd xDg (M' 2) n i = i → v.toInt = xEnd xDg (M' 2) n i ∧ N = xPut M' c (if xEnd xDg (M' 2) n i - p ≤ 4 then kI 100 else kI 102) (kI p) (xV (M' 2) p (xEnd xDg (M' 2) n i - p)) := by
      intro h e
      have e4 : (x3 - p1).toInt = i - p := by rw [i_sub (by omega) (by omega), hx, hp]
      rcases h with ⟨g, v1, M1, hD, _, M2, hP, hv, hN⟩ | ⟨g, v1, M1, hD, _, M2, hP, hv, hN⟩
      · rw [i_lt, e4, kI_toInt (by decide) (by decide)] at g
        obtain ⟨rfl, w⟩ := D_199_w hp hx (by omega) h2 hn hM hD
        rw [e, hv, hN, D_197_w hc h5 hP, w, ep, if_neg (by omega)]
        exact ⟨hx, rfl⟩
      · rw [i_lt, e4, kI_toInt (by decide) (by decide)] at g
        obtain ⟨rfl, w⟩ := D_199_w hp hx (by omega) h2 hn hM hD
        rw [e, hv, hN, D_197_w hc h5 hP, w, ep, if_pos (by omega)]
        exact ⟨hx, rfl⟩
    rcases hs with ⟨g, hs⟩ | ⟨g, hs⟩
    · rw [i_le, hM, hx] at g
      exact fin hs (by rw [xEnd_eq, if_neg (fun q => by omega)])
    · rw [i_le, hM, hx] at g
      rcases hs with ⟨g2, hs⟩ | ⟨g2, hs⟩
      · rw [f_198_at hx (by omega) hn hM, f_203_eq] at g2
        exact fin hs (by rw [xEnd_eq, if_neg (fun q => xDg_t.mp q.2 g2)])
      · rw [f_198_at hx (by omega) hn hM, f_203_eq] at g2
        have hs : M' = M' → ∀ i : Nat, (x3 + kI 1).toInt = i → p < i → i ≤ n → _ := hs
        have := hs rfl (i + 1) (by rw [i_add1 (by omega)]; omega) (by omega) (by omega)
        rw [xEnd_eq, if_pos ⟨by omega, xDg_t.mpr g2⟩]
        exact this
  have ep1 : (p1 + kI 1).toInt = ((p + 1 : Nat) : Int) := by rw [i_add1 (by omega)]; omega
  unfold xOne xNx xTk xVl
  rcases h with ⟨g, h⟩ | ⟨g, h⟩
  · rw [es, f_202_eq] at g
    have nl : xLt (M 2 p) = false := by cases c : xLt (M 2 p) with | false => rfl | true => exact absurd g (xLt_t.mp c)
    rcases h with ⟨g2, h⟩ | ⟨g2, h⟩
    · rw [es, f_203_eq] at g2
      have nd : xDg (M 2 p) = false := by cases c : xDg (M 2 p) with | false => rfl | true => exact absurd g2 (xDg_t.mp c)
      rw [nl, nd]
      simp only [Bool.false_eq_true, if_false]
      rcases h with ⟨g3, hv, hN⟩ | ⟨g3, h⟩
      · rw [es] at g3
        rw [if_pos (by unfold xBl; rw [g3]; rfl), hv]
        exact ⟨ep1, hN⟩
      · rw [es] at g3
        rcases h with ⟨g4, hv, hN⟩ | ⟨g4, h⟩
        · rw [es] at g4
          rw [if_pos (by unfold xBl; rw [g4]; rfl), hv]
          exact ⟨ep1, hN⟩
        · rw [es] at g4
          rw [if_neg (by unfold xBl; simp [g3, g4])]
          rcases h with ⟨g5, _, M1, hP, hv, hN⟩ | ⟨g5, _, M1, hP, hv, hN⟩
          · rw [es, f_204_eq] at g5
            rw [if_pos g5, hv, hN, D_197_w hc h5 hP, ep]
            exact ⟨by rw [← ep]; exact ep1, rfl⟩
          · rw [es, f_204_eq] at g5
            rw [if_neg g5, hv, hN, D_197_w hc h5 hP, es, ep]
            exact ⟨by rw [← ep]; exact ep1, rfl⟩
    · rw [es, f_203_eq] at g2
      have d : xDg (M 2 p) = true := xDg_t.mpr g2
      have := hD _ _ _ h (p + 1) ep1 (by omega) (by omega)
      have nb : ¬ xBl (M 2 p) = true := fun q => by rw [(xBl_no q).2] at d; cases d
      rw [nl, d, if_neg nb]
      simp only [Bool.false_eq_true, eq_self, reduceIte]
      exact this
  · rw [es, f_202_eq] at g
    have l : xLt (M 2 p) = true := xLt_t.mpr g
    have := hL _ _ _ h (p + 1) ep1 (by omega) (by omega)
    have nb : ¬ xBl (M 2 p) = true := fun q => by rw [(xBl_no q).1] at l; cases l
    rw [l, if_neg nb]
    simp only [eq_self, reduceIte]
    exact this
/-- the tokens up to the c-th -/
def xToks (M : pMem) (B : Nat → Int32) (n c : Nat) : Prop := (M 1 1).toInt = c ∧ ∀ k, k < c → xSt B n k < n ∧ M 3 k = xTk B n (xSt B n k) ∧ M 4 k = kI (xSt B n k) ∧ M 5 k = xVl B n (xSt B n k)
theorem D_195_w {n : Nat} {M : pMem} (hn : n ≤ 500) (hM : (M 1 0).toInt = n) {v : Unit} {N : pMem} (h : D_195 M v N) : ∃ c, c ≤ n ∧ xSt (M 2) n c = n ∧ xToks N (M 2) n c := by
  obtain ⟨M1, e1, h⟩ := h
  have b1 : M1 2 = M 2 := by rw [e1]; funext i; exact aPut_cell (by decide)
  have b2 : (M1 1 0).toInt = n := by rw [e1, aPut_at (by decide)]; exact hM
  have b3 : M1 1 1 = kI 0 := by rw [e1]; exact aPut_same
  refine (h (fun x1 x2 M' v N => ∀ p i c : Nat, x1.toInt = p → x2.toInt = i → p ≤ n → i ≤ p → c ≤ p → M' 2 = M 2 → (M' 1 0).toInt = n → xToks M' (M 2) n c → xSt (M 2) n c = xSk (M 2) n p → ∃ c, c ≤ n ∧ xSt (M 2) n c = n ∧ xToks N (M 2) n c) ?_) 0 0 0 rfl rfl (by omega) (by omega) (by omega) b1 b2 ⟨by rw [b3]; rfl, fun k hk => by omega⟩ rfl
  intro x1 x2 M' v N hs p i c hx1 hx2 hpn hip hcp hB hlen ht hst
  have fin : N = M' → p = n → ∃ c, c ≤ n ∧ xSt (M 2) n c = n ∧ xToks N (M 2) n c := by
    rintro rfl rfl
    exact ⟨c, hcp, by rw [hst, xSk_n], ht⟩
  rcases hs with ⟨g, _, hN⟩ | ⟨g, hs⟩
  · rw [i_le, hx2, kI_toInt (by decide) (by decide)] at g
    exact fin hN (by omega)
  · rw [i_le, hx2, kI_toInt (by decide) (by decide)] at g
    rcases hs with ⟨g2, _, hN⟩ | ⟨g2, v1, M2, hD, hs⟩
    · rw [i_le, hlen, hx1] at g2
      exact fin hN (by omega)
    · rw [i_le, hlen, hx1] at g2
      obtain ⟨d1, d2⟩ := D_196_w hx1 hn (by omega) hlen ht.1 (by omega) hD
      rw [hB] at d1
      have nx := xNx_rg (B := M 2) (n := n) (p := p) (by omega)
      unfold xOne at d2
      rw [hB] at d2
      have ei : (x2 + kI 1).toInt = ((i + 1 : Nat) : Int) := by rw [i_add1 (by omega)]; omega
      by_cases cb : xBl (M 2 p) = true
      · rw [if_pos cb] at d2
        subst d2
        have e2 : xNx (M 2) n p = p + 1 := by
          unfold xNx
          rw [(xBl_no cb).1, (xBl_no cb).2]
          rfl
        rw [e2] at d1
        exact hs (p + 1) (i + 1) c d1 ei (by omega) (by omega) (by omega) hB hlen ht (by rw [hst, xSk_bl (by omega) cb])
      · rw [if_neg cb] at d2
        have cb : xBl (M 2 p) = false := by cases q : xBl (M 2 p) with | false => rfl | true => exact absurd q cb
        have es : xSt (M 2) n c = p := by rw [hst, xSk_no cb]
        refine hs (xNx (M 2) n p) (i + 1) (c + 1) d1 ei (by omega) (by omega) (by omega) ?_ ?_ ?_ ?_
        · rw [d2]
          funext q
          rw [xPut_old (by omega) (by omega)]
          exact congrFun hB q
        · rw [d2, xPut_old (by omega) (by omega)]
          exact hlen
        · obtain ⟨n1, n3, n4, n5⟩ := xPut_new (M := M') (c := c) (t := xTk (M 2) n p) (pl := kI p) (v := xVl (M 2) n p)
          refine ⟨by rw [d2, n1, kI_toInt (by omega) (by omega)], fun k hk => ?_⟩
          by_cases ek : k = c
          · subst ek
            rw [d2, n3, n4, n5, es]
            exact ⟨by omega, rfl, rfl, rfl⟩
          · obtain ⟨t1, t2, t3, t4⟩ := ht.2 k (by omega)
            rw [d2, xPut_old (by omega) (by omega), xPut_old (by omega) (by omega), xPut_old (by omega) (by omega)]
            exact ⟨t1, t2, t3, t4⟩
        · show (if xSt (M 2) n c < n then xSk (M 2) n (xNx (M 2) n (xSt (M 2) n c)) else n) = _
          rw [es, if_pos (by omega)]
