/-! the interpreter's numbers -/
theorem zCd {c a b : Bool} (h : (bif c then a else b) = true) : c = true ∧ a = true ∨ c = false ∧ b = true := by
  cases c
  · exact Or.inr ⟨rfl, h⟩
  · exact Or.inl ⟨rfl, h⟩
theorem zAnd {a b : Bool} (h : (a && b) = true) : a = true ∧ b = true := by
  cases a
  · cases h
  · exact ⟨rfl, h⟩
theorem zOr {a b : Bool} (h : (a || b) = true) : a = true ∨ b = true := by
  cases a
  · exact Or.inr h
  · exact Or.inl rfl
theorem zAndF {a b : Bool} (h : (a && b) = false) : a = false ∨ b = false := by
  cases a
  · exact Or.inl rfl
  · exact Or.inr h
theorem zOrF {a b : Bool} (h : (a || b) = false) : a = false ∧ b = false := by
  cases a
  · exact ⟨rfl, h⟩
  · cases h
theorem zbe {a b : Nat} (h : Nat.beq a b = true) : a = b := Nat.eq_of_beq_eq_true h
theorem zbn {a b : Nat} (h : Nat.beq a b = false) : a ≠ b := Nat.ne_of_beq_eq_false h
theorem zbl {a b : Nat} (h : Nat.ble a b = true) : a ≤ b := Nat.le_of_ble_eq_true h
theorem zblF {a b : Nat} (h : Nat.ble a b = false) : b < a := by
  have h1 : ¬ a ≤ b := fun q => by rw [Nat.ble_eq_true_of_le q] at h; cases h
  omega
theorem zbt {a b : Nat} (h : Nat.blt a b = true) : a < b := Nat.le_of_ble_eq_true h
theorem zbtF {a b : Nat} (h : Nat.blt a b = false) : b ≤ a := by
  have := zblF (a := a + 1) (b := b) h
  omega
theorem zle_iff {x y : Int} : zle x y = true ↔ x ≤ y := by
  unfold zle
  cases x <;> cases y
  · rename_i a b
    show Nat.ble a b = true ↔ (a : Int) ≤ (b : Int)
    rw [Nat.ble_eq]
    omega
  · rename_i a b
    show false = true ↔ (a : Int) ≤ Int.negSucc b
    constructor
    · intro h; cases h
    · intro h; omega
  · rename_i a b
    show true = true ↔ Int.negSucc a ≤ (b : Int)
    constructor
    · intro _; omega
    · intro _; rfl
  · rename_i a b
    show Nat.ble b a = true ↔ Int.negSucc a ≤ Int.negSucc b
    rw [Nat.ble_eq]
    omega
theorem zeq_iff {x y : Int} : zeq x y = true ↔ x = y := by
  unfold zeq
  cases x <;> cases y
  · rename_i a b
    show Nat.beq a b = true ↔ (a : Int) = (b : Int)
    rw [Nat.beq_eq]
    omega
  · rename_i a b
    show false = true ↔ (a : Int) = Int.negSucc b
    constructor
    · intro h; cases h
    · intro h; omega
  · rename_i a b
    show false = true ↔ Int.negSucc a = (b : Int)
    constructor
    · intro h; cases h
    · intro h; omega
  · rename_i a b
    show Nat.beq a b = true ↔ Int.negSucc a = Int.negSucc b
    rw [Nat.beq_eq]
    omega
theorem zl {x y : Int} (h : zle x y = true) : x ≤ y := zle_iff.mp h
theorem zlF {x y : Int} (h : zle x y = false) : y < x := by
  have h1 : ¬ x ≤ y := fun q => by rw [zle_iff.mpr q] at h; cases h
  omega
theorem ze {x y : Int} (h : zeq x y = true) : x = y := zeq_iff.mp h
theorem zeF {x y : Int} (h : zeq x y = false) : x ≠ y := fun q => by rw [zeq_iff.mpr q] at h; cases h
theorem zmin_le {x y : Int} : zmin x y ≤ x ∧ zmin x y ≤ y := by
  unfold zmin
  cases h : zle x y
  · have := zlF h
    exact ⟨Int.le_of_lt this, Int.le_refl _⟩
  · exact ⟨Int.le_refl _, zl h⟩
theorem le_zmin {z x y : Int} (h1 : z ≤ x) (h2 : z ≤ y) : z ≤ zmin x y := by
  unfold zmin
  cases h : zle x y
  · exact h2
  · exact h1
theorem le_zmax {x y : Int} : x ≤ zmax x y ∧ y ≤ zmax x y := by
  unfold zmax
  cases h : zle x y
  · have := zlF h
    exact ⟨Int.le_refl _, Int.le_of_lt this⟩
  · exact ⟨zl h, Int.le_refl _⟩
theorem zmax_le {z x y : Int} (h1 : x ≤ z) (h2 : y ≤ z) : zmax x y ≤ z := by
  unfold zmax
  cases h : zle x y
  · exact h1
  · exact h2
theorem z0_eq : z0 = 0 := rfl
theorem z1_eq : z1 = 1 := rfl
/-- the number x is of the value v, of sort w: 0 an int, 2 a long -/
def zN (ρ : Nat → Int) (n w : Nat) (v : zV) (x : Int) : Prop :=
  (v.1 = w ∧ (v.2.2.1 = 0 ∨ v.2.2.2 < n) ∧ x = v.2.1 + v.2.2.1 * ρ v.2.2.2) ∨ (v.1 = w + 1 ∧ v.2.1 ≤ x ∧ x ≤ v.2.2.1)
def zSok (ρ : Nat → Int) (n : Nat) (σ : zS) : Prop := ∀ e ∈ σ, e.1 < n ∧ e.2.1 ≤ ρ e.1 ∧ ρ e.1 ≤ e.2.2
section ZNUM
variable {ρ : Nat → Int} {n w : Nat} {σ : zS} {v x y : zV} {X Y : Int}
theorem znC {c : Int} (h : X = c) : zN ρ n w (w, c, z0, 0) X := Or.inl ⟨rfl, Or.inl rfl, by subst h; simp [z0]⟩
theorem znR {a b : Int} {s : Nat} (h1 : a ≤ X) (h2 : X ≤ b) : zN ρ n w (w + 1, a, b, s) X := Or.inr ⟨rfl, h1, h2⟩
theorem znZ {a b : Int} (h1 : a ≤ X) (h2 : X ≤ b) : zN ρ n w (zr w a b) X := by
  unfold zr
  cases h : zeq a b
  · exact znR h1 h2
  · have := ze h
    exact znC (by omega)
theorem zN.mono {n' : Nat} {ρ' : Nat → Int} (h : zN ρ n w v X) (hn : n ≤ n') (hr : ∀ i, i < n → ρ' i = ρ i) : zN ρ' n' w v X := by
  rcases h with ⟨h1, h2, h3⟩ | h
  · refine Or.inl ⟨h1, ?_, ?_⟩
    · exact h2.imp id (fun q => by omega)
    · rcases h2 with q | q
      · rw [h3, q]; simp
      · rw [h3, hr _ q]
  · exact Or.inr h
theorem zSok.mono {n' : Nat} {ρ' : Nat → Int} (h : zSok ρ n σ) (hn : n ≤ n') (hr : ∀ i, i < n → ρ' i = ρ i) : zSok ρ' n' σ := fun e he => by
  obtain ⟨h1, h2, h3⟩ := h e he
  exact ⟨by omega, by rw [hr _ h1]; exact h2, by rw [hr _ h1]; exact h3⟩
theorem zSy_s {s : Nat} {k : Int → Int → Bool} (hs : zSok ρ n σ) (h : zSy σ s k = true) : ∃ lo hi, s < n ∧ lo ≤ ρ s ∧ ρ s ≤ hi ∧ k lo hi = true := by
  induction σ with
  | nil => cases h
  | cons e r ih =>
    unfold zSy at h
    rcases zCd h with ⟨h1, h2⟩ | ⟨h1, h2⟩
    · obtain ⟨q1, q2, q3⟩ := hs e List.mem_cons_self
      rw [zbe h1] at q1 q2 q3
      exact ⟨_, _, q1, q2, q3, h2⟩
    · exact ih (fun e he => hs e (List.mem_cons_of_mem _ he)) h2
theorem zRg_s {k : Int → Int → Bool} (hs : zSok ρ n σ) (hv : zN ρ n w v X) (h : zRg w σ v k = true) : ∃ lo hi, lo ≤ X ∧ X ≤ hi ∧ k lo hi = true := by
  unfold zRg at h
  rcases hv with ⟨h1, -, h3⟩ | ⟨h1, h2, h3⟩
  · have e : Nat.beq v.1 w = true := by rw [h1]; exact Nat.beq_refl w
    rw [e] at h
    have h : zRgA σ v k = true := h
    unfold zRgA at h
    rcases zCd h with ⟨c1, h⟩ | ⟨c1, h⟩
    · have := ze c1
      rw [this] at h3
      have e0 : X = v.2.1 := by rw [h3, z0_eq]; simp
      exact ⟨_, _, by omega, by omega, h⟩
    · rcases zCd h with ⟨c2, h⟩ | ⟨c2, h⟩
      · obtain ⟨lo, hi, -, q2, q3, hk⟩ := zSy_s hs h
        have := ze c2
        rw [this, z1_eq] at h3
        exact ⟨_, _, by omega, by omega, hk⟩
      · obtain ⟨lo, hi, -, q2, q3, hk⟩ := zSy_s hs h
        unfold zAfR at hk
        rcases zCd hk with ⟨c3, hk⟩ | ⟨c3, hk⟩
        · have := zl c3
          refine ⟨_, _, ?_, ?_, hk⟩
          · rw [h3]; have := Int.mul_le_mul_of_nonneg_left q2 this; omega
          · rw [h3]; have := Int.mul_le_mul_of_nonneg_left q3 this; omega
        · have := zlF c3
          have h0 : v.2.2.1 ≤ 0 := by rw [z0_eq] at this; omega
          refine ⟨_, _, ?_, ?_, hk⟩
          · rw [h3]; have := Int.mul_le_mul_of_nonpos_left h0 q3; omega
          · rw [h3]; have := Int.mul_le_mul_of_nonpos_left h0 q2; omega
  · have e : Nat.beq v.1 w = false := by
      cases hb : Nat.beq v.1 w
      · rfl
      · have := zbe hb; omega
    have e2 : Nat.beq v.1 (w + 1) = true := by rw [h1]; exact Nat.beq_refl _
    rw [e, e2] at h
    exact ⟨_, _, h2, h3, h⟩
theorem zRg2_s {k : Int → Int → Int → Int → Bool} (hs : zSok ρ n σ) (hx : zN ρ n w x X) (hy : zN ρ n w y Y) (h : zRg2 w σ x y k = true) : ∃ lx hx ly hy, lx ≤ X ∧ X ≤ hx ∧ ly ≤ Y ∧ Y ≤ hy ∧ k lx hx ly hy = true := by
  unfold zRg2 at h
  obtain ⟨lx, ux, h1, h2, h⟩ := zRg_s hs hx h
  obtain ⟨ly, uy, h3, h4, h⟩ := zRg_s hs hy h
  exact ⟨lx, ux, ly, uy, h1, h2, h3, h4, h⟩
theorem zNrP_s {s : Nat} {lo hi : Int} {k : zS → Bool} (hs : zSok ρ n σ) (hsn : s < n) (h1 : lo ≤ ρ s) (h2 : ρ s ≤ hi) (h : zNrP σ s lo hi k = true) : ∃ σ', zSok ρ n σ' ∧ k σ' = true := by
  unfold zNrP at h
  rcases zCd h with ⟨-, h⟩ | ⟨c, -⟩
  · refine ⟨_, fun e he => ?_, h⟩
    rcases List.mem_cons.mp he with rfl | he
    · exact ⟨hsn, h1, h2⟩
    · exact hs e he
  · have := zlF c
    omega
theorem zNr_s {lo hi : Int} {k : zS → Bool} (hs : zSok ρ n σ) (hv : zN ρ n w v X) (hlo : lo ≤ X) (hhi : X ≤ hi) (h : zNr w σ v lo hi k = true) : ∃ σ', zSok ρ n σ' ∧ k σ' = true := by
  unfold zNr at h
  cases ht : Nat.beq v.1 w
  · rw [ht] at h
    exact ⟨σ, hs, h⟩
  · rw [ht] at h
    have h : zNrS v.2.2.1 σ v lo hi k = true := h
    have hX : X = v.2.1 + v.2.2.1 * ρ v.2.2.2 := by
      rcases hv with ⟨-, -, h3⟩ | ⟨h1, -⟩
      · exact h3
      · have := zbe ht; omega
    unfold zNrS at h
    cases c1 : zeq v.2.2.1 z1
    · rw [c1] at h
      cases c2 : zle z1 v.2.2.1
      · rw [c2] at h
        cases c3 : zeq v.2.2.1 (Int.negSucc 0)
        · rw [c3] at h
          exact ⟨σ, hs, h⟩
        · rw [c3] at h
          have h : zNrM σ v lo hi k = true := h
          unfold zNrM at h
          obtain ⟨l, u, q1, q2, q3, h⟩ := zSy_s hs h
          have e := ze c3
          rw [e, show Int.negSucc 0 = -1 from rfl] at hX
          refine zNrP_s hs q1 (zmax_le q2 (by omega)) (le_zmin q3 (by omega)) h
      · rw [c2] at h
        have h : zNrB σ v lo hi k = true := h
        unfold zNrB at h
        obtain ⟨l, u, q1, q2, q3, h⟩ := zSy_s hs h
        have e := zl c2
        rw [z1_eq] at e
        have hb : 0 < v.2.2.1 := by omega
        refine zNrP_s hs q1 (zmax_le q2 ?_) (le_zmin q3 ?_) h
        · have hp : (v.2.1 - lo) / v.2.2.1 * v.2.2.1 ≤ v.2.1 - lo := Int.ediv_mul_le _ (by omega)
          have hp2 : v.2.1 - lo < ((v.2.1 - lo) / v.2.2.1 + 1) * v.2.2.1 := Int.lt_ediv_add_one_mul_self _ hb
          have h6 : -(ρ v.2.2.2) < (v.2.1 - lo) / v.2.2.1 + 1 := by
            have h7 : -(ρ v.2.2.2) * v.2.2.1 < ((v.2.1 - lo) / v.2.2.1 + 1) * v.2.2.1 := by
              rw [Int.neg_mul, Int.mul_comm (ρ v.2.2.2)]
              omega
            exact Int.lt_of_mul_lt_mul_right h7 (by omega)
          omega
        · rw [Int.le_ediv_iff_mul_le hb, Int.mul_comm]
          omega
    · rw [c1] at h
      have h : zNr1 σ v lo hi k = true := h
      unfold zNr1 at h
      obtain ⟨l, u, q1, q2, q3, h⟩ := zSy_s hs h
      have e := ze c1
      rw [e, z1_eq] at hX
      rcases zCd h with ⟨-, h⟩ | ⟨-, h⟩
      · exact ⟨σ, hs, h⟩
      · exact zNrP_s hs q1 (zmax_le q2 (by omega)) (le_zmin q3 (by omega)) h
theorem zNr2_s {lx ux ly uy : Int} {k : zS → Bool} (hs : zSok ρ n σ) (hx : zN ρ n w x X) (hy : zN ρ n w y Y) (h1 : lx ≤ X) (h2 : X ≤ ux) (h3 : ly ≤ Y) (h4 : Y ≤ uy) (h : zNr2 w σ x y lx ux ly uy k = true) : ∃ σ', zSok ρ n σ' ∧ k σ' = true := by
  unfold zNr2 at h
  obtain ⟨σ1, hs1, h⟩ := zNr_s hs hx h1 h2 h
  exact zNr_s hs1 hy h3 h4 h
theorem zPar_s (hx : zN ρ n w x X) (hy : zN ρ n w y Y) (h : zPar w x y = true) : X - Y = x.2.1 - y.2.1 := by
  unfold zPar zSame at h
  obtain ⟨h, h4⟩ := zAnd h
  obtain ⟨h1, h⟩ := zAnd h
  obtain ⟨h2, h3⟩ := zAnd h
  have h1 := zbe h1
  have h2 := zbe h2
  have h3 := zbe h3
  have h4 := ze h4
  rcases hx with ⟨-, -, q3⟩ | ⟨q1, -⟩
  · rcases hy with ⟨-, -, r3⟩ | ⟨r1, -⟩
    · rw [q3, r3, h3, h4]
      omega
    · omega
  · omega
theorem zLt_s {k : zS → Bool} (hs : zSok ρ n σ) (hx : zN ρ n w x X) (hy : zN ρ n w y Y) (hc : X < Y) (h : zLt w σ x y k = true) : ∃ σ', zSok ρ n σ' ∧ k σ' = true := by
  unfold zLt at h
  rcases zCd h with ⟨c, h⟩ | ⟨-, h⟩
  · have hp := zPar_s hx hy c
    rcases zCd h with ⟨c, -⟩ | ⟨-, h⟩
    · have := zl c
      omega
    · exact ⟨σ, hs, h⟩
  obtain ⟨lx, ux, ly, uy, h1, h2, h3, h4, h⟩ := zRg2_s hs hx hy h
  unfold zLtK at h
  rcases zCd h with ⟨c, -⟩ | ⟨c, h⟩
  · have := zl c
    omega
  · rcases zCd h with ⟨-, h⟩ | ⟨-, h⟩
    · exact ⟨σ, hs, h⟩
    · exact zNr2_s hs hx hy h1 (le_zmin h2 (by rw [z1_eq]; omega)) (zmax_le h3 (by rw [z1_eq]; omega)) h4 h
theorem zLe_s {k : zS → Bool} (hs : zSok ρ n σ) (hx : zN ρ n w x X) (hy : zN ρ n w y Y) (hc : X ≤ Y) (h : zLe w σ x y k = true) : ∃ σ', zSok ρ n σ' ∧ k σ' = true := by
  unfold zLe at h
  rcases zCd h with ⟨c, h⟩ | ⟨-, h⟩
  · have hp := zPar_s hx hy c
    rcases zCd h with ⟨-, h⟩ | ⟨c, -⟩
    · exact ⟨σ, hs, h⟩
    · have := zlF c
      omega
  obtain ⟨lx, ux, ly, uy, h1, h2, h3, h4, h⟩ := zRg2_s hs hx hy h
  unfold zLeK at h
  rcases zCd h with ⟨-, h⟩ | ⟨-, h⟩
  · exact ⟨σ, hs, h⟩
  · rcases zCd h with ⟨-, h⟩ | ⟨c, -⟩
    · exact zNr2_s hs hx hy h1 (le_zmin h2 (by omega)) (zmax_le h3 (by omega)) h4 h
    · have := zlF c
      omega
theorem zEq_s {k : zS → Bool} (hs : zSok ρ n σ) (hx : zN ρ n w x X) (hy : zN ρ n w y Y) (hc : X = Y) (h : zEq w σ x y k = true) : ∃ σ', zSok ρ n σ' ∧ k σ' = true := by
  unfold zEq at h
  rcases zCd h with ⟨c, h⟩ | ⟨-, h⟩
  · have hp := zPar_s hx hy c
    rcases zCd h with ⟨-, h⟩ | ⟨c, -⟩
    · exact ⟨σ, hs, h⟩
    · exact absurd (by omega) (zeF c)
  obtain ⟨lx, ux, ly, uy, h1, h2, h3, h4, h⟩ := zRg2_s hs hx hy h
  unfold zEqK at h
  have l1 : zmax lx ly ≤ X := zmax_le h1 (by omega)
  have l2 : X ≤ zmin ux uy := le_zmin h2 (by omega)
  rcases zCd h with ⟨-, h⟩ | ⟨c, -⟩
  · exact zNr2_s hs hx hy l1 l2 (by omega) (by omega) h
  · have := zlF c
    omega
theorem zNeC_s {lx ux c : Int} {k : zS → Bool} (hs : zSok ρ n σ) (hx : zN ρ n w x X) (h1 : lx ≤ X) (h2 : X ≤ ux) (hc : X ≠ c) (h : zNeC w σ x lx ux c k = true) : ∃ σ', zSok ρ n σ' ∧ k σ' = true := by
  unfold zNeC at h
  rcases zCd h with ⟨c1, h⟩ | ⟨c1, h⟩
  · have := ze c1
    rcases zCd h with ⟨c2, -⟩ | ⟨c2, h⟩
    · have := ze c2
      omega
    · exact zNr_s hs hx (by rw [z1_eq]; omega) h2 h
  · rcases zCd h with ⟨c2, h⟩ | ⟨c2, h⟩
    · have := ze c2
      exact zNr_s hs hx h1 (by rw [z1_eq]; omega) h
    · rcases zCd h with ⟨c3, h⟩ | ⟨c3, h⟩
      · obtain ⟨ha, hb⟩ := zAnd h
        by_cases q : X < c
        · exact zNr_s hs hx h1 (by rw [z1_eq]; omega) ha
        · exact zNr_s hs hx (by rw [z1_eq]; omega) h2 hb
      · exact ⟨σ, hs, h⟩
theorem zNe_s {k : zS → Bool} (hs : zSok ρ n σ) (hx : zN ρ n w x X) (hy : zN ρ n w y Y) (hc : X ≠ Y) (h : zNe w σ x y k = true) : ∃ σ', zSok ρ n σ' ∧ k σ' = true := by
  unfold zNe at h
  rcases zCd h with ⟨c, h⟩ | ⟨-, h⟩
  · have hp := zPar_s hx hy c
    rcases zCd h with ⟨c, -⟩ | ⟨-, h⟩
    · have := ze c
      omega
    · exact ⟨σ, hs, h⟩
  obtain ⟨lx, ux, ly, uy, h1, h2, h3, h4, h⟩ := zRg2_s hs hx hy h
  unfold zNeK at h
  rcases zCd h with ⟨c, h⟩ | ⟨c, h⟩
  · have := ze c
    exact zNeC_s hs hx h1 h2 (by omega) h
  · rcases zCd h with ⟨c, h⟩ | ⟨c, h⟩
    · have := ze c
      exact zNeC_s hs hy h3 h4 (by omega) h
    · exact ⟨σ, hs, h⟩
/-- a comparison -/
theorem zCmp_s {c : Jvm.ClassFile.Cond} {kt kf : zS → Bool} {a b : Int32} (hs : zSok ρ n σ) (hx : zN ρ n 0 x a.toInt) (hy : zN ρ n 0 y b.toInt) (h : zCmpS (zCc c) σ x y kt kf = true) : ∃ σ', zSok ρ n σ' ∧ (if aCd c a b = true then kt σ' else kf σ') = true := by
  have e : ∀ (p q : zS → zV → zV → (zS → Bool) → Bool) (sw : Bool), zCp p q sw σ x y kt kf = true → (sw = true ∧ p σ y x kt = true ∧ q σ x y kf = true) ∨ (sw = false ∧ p σ x y kt = true ∧ q σ y x kf = true) := by
    intro p q sw hh
    cases sw
    · exact Or.inr ⟨rfl, zAnd hh⟩
    · exact Or.inl ⟨rfl, zAnd hh⟩
  have fin : ∀ {A : Prop} [Decidable A] (hA : A → ∃ σ', zSok ρ n σ' ∧ kt σ' = true) (hB : ¬ A → ∃ σ', zSok ρ n σ' ∧ kf σ' = true), ∃ σ', zSok ρ n σ' ∧ (if decide A = true then kt σ' else kf σ') = true := by
    intro A _ hA hB
    by_cases q : A
    · obtain ⟨s', h1, h2⟩ := hA q
      exact ⟨s', h1, by rw [if_pos (decide_eq_true q)]; exact h2⟩
    · obtain ⟨s', h1, h2⟩ := hB q
      exact ⟨s', h1, by rw [if_neg (by rw [decide_eq_false q]; exact Bool.false_ne_true)]; exact h2⟩
  cases c with
  | eq =>
    have h : zCp (zEq 0) (zNe 0) false σ x y kt kf = true := h
    rcases e _ _ _ h with ⟨q, -⟩ | ⟨-, h1, h2⟩
    · cases q
    · exact fin (A := a = b) (fun q => zEq_s hs hx hy (by rw [q]) h1) (fun q => zNe_s hs hy hx (fun z => q (Int32.toInt_inj.mp z.symm)) h2)
  | ne =>
    have h : zCp (zNe 0) (zEq 0) false σ x y kt kf = true := h
    rcases e _ _ _ h with ⟨q, -⟩ | ⟨-, h1, h2⟩
    · cases q
    · exact fin (A := ¬ a = b) (fun q => zNe_s hs hx hy (fun z => q (Int32.toInt_inj.mp z)) h1) (fun q => zEq_s hs hy hx (by rw [Decidable.not_not.mp q]) h2)
  | lt =>
    have h : zCp (zLt 0) (zLe 0) false σ x y kt kf = true := h
    rcases e _ _ _ h with ⟨q, -⟩ | ⟨-, h1, h2⟩
    · cases q
    · exact fin (A := a < b) (fun q => zLt_s hs hx hy (Int32.lt_iff_toInt_lt.mp q) h1) (fun q => zLe_s hs hy hx (Int32.le_iff_toInt_le.mp (Int32.not_lt.mp q)) h2)
  | ge =>
    have h : zCp (zLe 0) (zLt 0) true σ x y kt kf = true := h
    rcases e _ _ _ h with ⟨-, h1, h2⟩ | ⟨q, -⟩
    · exact fin (A := b ≤ a) (fun q => zLe_s hs hy hx (Int32.le_iff_toInt_le.mp q) h1) (fun q => zLt_s hs hx hy (Int32.lt_iff_toInt_lt.mp (Int32.not_le.mp q)) h2)
    · cases q
  | gt =>
    have h : zCp (zLt 0) (zLe 0) true σ x y kt kf = true := h
    rcases e _ _ _ h with ⟨-, h1, h2⟩ | ⟨q, -⟩
    · exact fin (A := b < a) (fun q => zLt_s hs hy hx (Int32.lt_iff_toInt_lt.mp q) h1) (fun q => zLe_s hs hx hy (Int32.le_iff_toInt_le.mp (Int32.not_lt.mp q)) h2)
    · cases q
  | le =>
    have h : zCp (zLe 0) (zLt 0) false σ x y kt kf = true := h
    rcases e _ _ _ h with ⟨q, -⟩ | ⟨-, h1, h2⟩
    · cases q
    · exact fin (A := a ≤ b) (fun q => zLe_s hs hx hy (Int32.le_iff_toInt_le.mp q) h1) (fun q => zLt_s hs hy hx (Int32.lt_iff_toInt_lt.mp (Int32.not_le.mp q)) h2)
end ZNUM
