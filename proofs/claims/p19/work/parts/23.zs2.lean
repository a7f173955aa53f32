/-! the interpreter's arithmetic -/
theorem zWr_id {w : Nat} {z : Int} (hw : w = 0 ∨ w = 2) (h1 : zMn w ≤ z) (h2 : z ≤ zMx w) : zWr w z = z := by
  unfold zWr
  rcases hw with rfl | rfl
  · have a : (-2147483648 : Int) ≤ z := h1
    have b : z ≤ 2147483647 := h2
    exact Int.bmod_eq_of_le (show -((4294967296 : Nat) / 2 : Int) ≤ z by omega) (show z < (((4294967296 : Nat) : Int) + 1) / 2 by omega)
  · have a : (-9223372036854775808 : Int) ≤ z := h1
    have b : z ≤ 9223372036854775807 := h2
    exact Int.bmod_eq_of_le (show -((18446744073709551616 : Nat) / 2 : Int) ≤ z by omega) (show z < (((18446744073709551616 : Nat) : Int) + 1) / 2 by omega)
theorem zWr_rg {w : Nat} {z : Int} (hw : w = 0 ∨ w = 2) : zMn w ≤ zWr w z ∧ zWr w z ≤ zMx w := by
  unfold zWr
  rcases hw with rfl | rfl
  · have a := Int.le_bmod (x := z) (m := 4294967296) (by omega)
    have b := Int.bmod_lt (x := z) (m := 4294967296) (by omega)
    refine ⟨?_, ?_⟩
    · show (-2147483648 : Int) ≤ Int.bmod z 4294967296
      omega
    · show Int.bmod z 4294967296 ≤ (2147483647 : Int)
      omega
  · have a := Int.le_bmod (x := z) (m := 18446744073709551616) (by omega)
    have b := Int.bmod_lt (x := z) (m := 18446744073709551616) (by omega)
    refine ⟨?_, ?_⟩
    · show (-9223372036854775808 : Int) ≤ Int.bmod z 18446744073709551616
      omega
    · show Int.bmod z 18446744073709551616 ≤ (9223372036854775807 : Int)
      omega
theorem zI32_rg (x : Int32) : zMn 0 ≤ x.toInt ∧ x.toInt ≤ zMx 0 := by
  have a := x.le_toInt
  have b := x.toInt_lt
  exact ⟨a, by show x.toInt ≤ 2147483647; omega⟩
theorem zI64_rg (x : Int64) : zMn 2 ≤ x.toInt ∧ x.toInt ≤ zMx 2 := by
  have a := x.le_toInt
  have b := x.toInt_lt
  exact ⟨a, by show x.toInt ≤ 9223372036854775807; omega⟩
section ZAR
variable {ρ : Nat → Int} {n w : Nat} {σ : zS} {v x y : zV} {X Y : Int} {k : zV → Bool}
theorem zAff_s {a b : Int} {s : Nat} (h1 : b = 0 ∨ s < n) (h2 : X = a + b * ρ s) : zN ρ n w (zAff w a b s) X := by
  unfold zAff
  cases h : zeq b z0
  · exact Or.inl ⟨rfl, h1, h2⟩
  · have := ze h
    rw [this] at h2
    exact znC (by rw [h2, z0_eq]; simp)
theorem zTag (h : zN ρ n w v X) : v.1 = w ∨ v.1 = w + 1 := by
  rcases h with ⟨h1, -⟩ | ⟨h1, -⟩
  · exact Or.inl h1
  · exact Or.inr h1
theorem zSh_s {c : Int} (h : zN ρ n w v X) : zN ρ n w (zSh w v c) (X + c) := by
  unfold zSh
  rcases h with ⟨h1, h2, h3⟩ | ⟨h1, h2, h3⟩
  · have e : Nat.beq v.1 w = true := by rw [h1]; exact Nat.beq_refl w
    rw [e]
    exact Or.inl ⟨rfl, h2, by show X + c = (v.2.1 + c) + v.2.2.1 * ρ v.2.2.2; omega⟩
  · have e : Nat.beq v.1 w = false := by
      cases hb : Nat.beq v.1 w
      · rfl
      · have := zbe hb; omega
    rw [e]
    exact znR (by omega) (by omega)
theorem zNg_s (h : zN ρ n w v X) : zN ρ n w (zNg w v) (-X) := by
  unfold zNg
  rcases h with ⟨h1, h2, h3⟩ | ⟨h1, h2, h3⟩
  · have e : Nat.beq v.1 w = true := by rw [h1]; exact Nat.beq_refl w
    rw [e]
    refine Or.inl ⟨rfl, ?_, ?_⟩
    · exact h2.imp (fun q => by show -v.2.2.1 = 0; omega) id
    · show -X = -v.2.1 + -v.2.2.1 * ρ v.2.2.2
      rw [Int.neg_mul]
      omega
  · have e : Nat.beq v.1 w = false := by
      cases hb : Nat.beq v.1 w
      · rfl
      · have := zbe hb; omega
    rw [e]
    exact znR (by omega) (by omega)
theorem zSc_s {c : Int} (h : zN ρ n w v X) : zN ρ n w (zSc w v c) (X * c) := by
  unfold zSc
  rcases h with ⟨h1, h2, h3⟩ | ⟨h1, h2, h3⟩
  · have e : Nat.beq v.1 w = true := by rw [h1]; exact Nat.beq_refl w
    rw [e]
    refine zAff_s ?_ ?_
    · rcases h2 with q | q
      · exact Or.inl (by rw [q]; simp)
      · exact Or.inr q
    · rw [h3, Int.add_mul, Int.mul_right_comm]
  · have e : Nat.beq v.1 w = false := by
      cases hb : Nat.beq v.1 w
      · rfl
      · have := zbe hb; omega
    rw [e]
    cases hc : zle z0 c
    · have := zlF hc
      have hc0 : c ≤ 0 := by rw [z0_eq] at this; omega
      exact znR (Int.mul_le_mul_of_nonpos_right h3 hc0) (Int.mul_le_mul_of_nonpos_right h2 hc0)
    · have := zl hc
      exact znR (Int.mul_le_mul_of_nonneg_right h2 this) (Int.mul_le_mul_of_nonneg_right h3 this)
theorem zOver_s {Z lx ux ly uy z : Int} (hw : w = 0 ∨ w = 2) (h1 : lx ≤ X) (h2 : X ≤ ux) (h3 : ly ≤ Y) (h4 : Y ≤ uy) (hz : lx = X → ly = Y → z = Z) : zN ρ n w (zOver w z lx ux ly uy) (zWr w Z) := by
  unfold zOver
  cases c : (zeq lx ux && zeq ly uy)
  · have := zWr_rg (z := Z) hw
    exact znR this.1 this.2
  · obtain ⟨c1, c2⟩ := zAnd c
    have := ze c1
    have := ze c2
    exact znC (by rw [hz (by omega) (by omega)])
theorem zAdd_s (hw : w = 0 ∨ w = 2) (hs : zSok ρ n σ) (hx : zN ρ n w x X) (hy : zN ρ n w y Y) (h : zAdd w σ x y k = true) : ∃ v, zN ρ n w v (zWr w (X + Y)) ∧ k v = true := by
  unfold zAdd at h
  obtain ⟨lx, ux, ly, uy, h1, h2, h3, h4, h⟩ := zRg2_s hs hx hy h
  unfold zAddK at h
  rcases zCd h with ⟨c, h⟩ | ⟨-, h⟩
  · obtain ⟨c1, c2⟩ := zAnd c
    have := zl c1
    have := zl c2
    refine ⟨_, ?_, h⟩
    rw [zWr_id hw (by omega) (by omega)]
    unfold zAddV
    cases c3 : zeq ly uy
    · cases c4 : zeq lx ux
      · cases c5 : zSame w x y
        · exact znR (by omega) (by omega)
        · unfold zSame at c5
          obtain ⟨d1, d2⟩ := zAnd c5
          obtain ⟨d2, d3⟩ := zAnd d2
          have d1 := zbe d1
          have d2 := zbe d2
          have d3 := zbe d3
          rcases hx with ⟨-, q2, q3⟩ | ⟨q1, -⟩
          · rcases hy with ⟨-, r2, r3⟩ | ⟨r1, -⟩
            · refine zAff_s ?_ ?_
              · rcases q2 with q2 | q2
                · rcases r2 with r2 | r2
                  · exact Or.inl (by omega)
                  · exact Or.inr (by omega)
                · exact Or.inr q2
              · rw [q3, r3, ← d3, Int.add_mul]
                omega
            · omega
          · omega
      · have := ze c4
        show zN ρ n w (zSh w y lx) (X + Y)
        have e : X + Y = Y + lx := by omega
        rw [e]
        exact zSh_s hy
    · have := ze c3
      show zN ρ n w (zSh w x ly) (X + Y)
      have e : X + Y = X + ly := by omega
      rw [e]
      exact zSh_s hx
  · exact ⟨_, zOver_s hw h1 h2 h3 h4 (fun a b => by rw [a, b]), h⟩
theorem zSub_s (hw : w = 0 ∨ w = 2) (hs : zSok ρ n σ) (hx : zN ρ n w x X) (hy : zN ρ n w y Y) (h : zSub w σ x y k = true) : ∃ v, zN ρ n w v (zWr w (X - Y)) ∧ k v = true := by
  unfold zSub at h
  rcases zCd h with ⟨-, h⟩ | ⟨-, h⟩
  · have := zAdd_s hw hs hx (zNg_s hy) h
    rwa [show X + -Y = X - Y by omega] at this
  · cases h
theorem zmul1 {a b c Z : Int} (h1 : a ≤ Z) (h2 : Z ≤ b) : zmin (a * c) (b * c) ≤ Z * c ∧ Z * c ≤ zmax (a * c) (b * c) := by
  have hm := zmin_le (x := a * c) (y := b * c)
  have hM := le_zmax (x := a * c) (y := b * c)
  by_cases hc : 0 ≤ c
  · have := Int.mul_le_mul_of_nonneg_right h1 hc
    have := Int.mul_le_mul_of_nonneg_right h2 hc
    omega
  · have := Int.mul_le_mul_of_nonpos_right h1 (show c ≤ 0 by omega)
    have := Int.mul_le_mul_of_nonpos_right h2 (show c ≤ 0 by omega)
    omega
theorem zmul4 {lx ux ly uy : Int} (h1 : lx ≤ X) (h2 : X ≤ ux) (h3 : ly ≤ Y) (h4 : Y ≤ uy) : zMin4 (lx * ly) (lx * uy) (ux * ly) (ux * uy) ≤ X * Y ∧ X * Y ≤ zMax4 (lx * ly) (lx * uy) (ux * ly) (ux * uy) := by
  unfold zMin4 zMax4
  have a := zmul1 (c := Y) h1 h2
  have b := zmul1 (c := lx) h3 h4
  have d := zmul1 (c := ux) h3 h4
  rw [Int.mul_comm Y lx, Int.mul_comm ly lx, Int.mul_comm uy lx] at b
  rw [Int.mul_comm Y ux, Int.mul_comm ly ux, Int.mul_comm uy ux] at d
  have p1 := zmin_le (x := zmin (lx * ly) (lx * uy)) (y := zmin (ux * ly) (ux * uy))
  have p2 := le_zmax (x := zmax (lx * ly) (lx * uy)) (y := zmax (ux * ly) (ux * uy))
  refine ⟨?_, ?_⟩
  · have q : zmin (zmin (lx * ly) (lx * uy)) (zmin (ux * ly) (ux * uy)) ≤ zmin (lx * Y) (ux * Y) := le_zmin (Int.le_trans p1.1 b.1) (Int.le_trans p1.2 d.1)
    exact Int.le_trans q a.1
  · have q : zmax (lx * Y) (ux * Y) ≤ zmax (zmax (lx * ly) (lx * uy)) (zmax (ux * ly) (ux * uy)) := zmax_le (Int.le_trans b.2 p2.1) (Int.le_trans d.2 p2.2)
    exact Int.le_trans a.2 q
theorem zMul_s (hw : w = 0 ∨ w = 2) (hs : zSok ρ n σ) (hx : zN ρ n w x X) (hy : zN ρ n w y Y) (h : zMul w σ x y k = true) : ∃ v, zN ρ n w v (zWr w (X * Y)) ∧ k v = true := by
  unfold zMul at h
  obtain ⟨lx, ux, ly, uy, h1, h2, h3, h4, h⟩ := zRg2_s hs hx hy h
  unfold zMulK at h
  have hb := zmul4 h1 h2 h3 h4
  rcases zCd h with ⟨c, h⟩ | ⟨-, h⟩
  · obtain ⟨c1, c2⟩ := zAnd c
    have := zl c1
    have := zl c2
    refine ⟨_, ?_, h⟩
    rw [zWr_id hw (by omega) (by omega)]
    unfold zMulV
    cases c3 : zeq ly uy
    · cases c4 : zeq lx ux
      · exact znR hb.1 hb.2
      · have := ze c4
        show zN ρ n w (zSc w y lx) (X * Y)
        have e : X * Y = Y * lx := by rw [show X = lx by omega, Int.mul_comm]
        rw [e]
        exact zSc_s hy
    · have := ze c3
      show zN ρ n w (zSc w x ly) (X * Y)
      have e : X * Y = X * ly := by rw [show Y = ly by omega]
      rw [e]
      exact zSc_s hx
  · exact ⟨_, zOver_s hw h1 h2 h3 h4 (fun a b => by rw [a, b]), h⟩
theorem zd_pos {a b c : Int} (ha : 0 ≤ a) (hb : 1 ≤ b) (hc : b ≤ c) : a.tdiv c ≤ a.tdiv b := by
  rw [Int.tdiv_eq_ediv_of_nonneg ha, Int.tdiv_eq_ediv_of_nonneg ha]
  have h1 : a / c * c ≤ a := Int.ediv_mul_le _ (by omega)
  rw [Int.le_ediv_iff_mul_le (by omega)]
  have h0 : 0 ≤ a / c := Int.ediv_nonneg ha (by omega)
  have := Int.mul_le_mul_of_nonneg_left hc h0
  omega
theorem zd_neg {a b c : Int} (ha : a ≤ 0) (hb : 1 ≤ b) (hc : b ≤ c) : a.tdiv b ≤ a.tdiv c := by
  have := zd_pos (a := -a) (by omega) hb hc
  rw [Int.neg_tdiv, Int.neg_tdiv] at this
  omega
theorem zd_rg {a b : Int} (hb : 1 ≤ b) : (0 ≤ a → 0 ≤ a.tdiv b ∧ a.tdiv b ≤ a) ∧ (a ≤ 0 → a ≤ a.tdiv b ∧ a.tdiv b ≤ 0) := by
  have key : ∀ z : Int, 0 ≤ z → 0 ≤ z.tdiv b ∧ z.tdiv b ≤ z := fun z hz => ⟨Int.tdiv_nonneg hz (by omega), Int.tdiv_le_self b hz⟩
  refine ⟨key a, fun h => ?_⟩
  have := key (-a) (by omega)
  rw [Int.neg_tdiv] at this
  omega
theorem zDiv_s (hw : w = 0 ∨ w = 2) (hs : zSok ρ n σ) (hx : zN ρ n w x X) (hy : zN ρ n w y Y) (hX1 : zMn w ≤ X) (hX2 : X ≤ zMx w) (h : zDiv w σ x y k = true) : Y ≠ 0 ∧ ∃ v, zN ρ n w v (zWr w (X.tdiv Y)) ∧ k v = true := by
  unfold zDiv at h
  obtain ⟨lx, ux, ly, uy, h1, h2, h3, h4, h⟩ := zRg2_s hs hx hy h
  unfold zDivK at h
  have hmn : zMn w ≤ 0 := by rcases hw with rfl | rfl <;> exact (by decide)
  have hmx : 0 ≤ zMx w := by rcases hw with rfl | rfl <;> exact (by decide)
  rcases zCd h with ⟨c, h⟩ | ⟨-, h⟩
  · have c := zl c
    rw [z1_eq] at c
    refine ⟨by omega, _, ?_, h⟩
    have hr := zd_rg (a := X) (b := Y) (by omega)
    have hid : zWr w (X.tdiv Y) = X.tdiv Y := by
      refine zWr_id hw ?_ ?_
      · by_cases q : 0 ≤ X
        · have := hr.1 q; omega
        · have := hr.2 (by omega); omega
      · by_cases q : 0 ≤ X
        · have := hr.1 q; omega
        · have := hr.2 (by omega); omega
    rw [hid]
    unfold zDivV
    cases c2 : (zeq lx ux && zeq ly uy)
    · refine znR ?_ ?_
      · cases c3 : zle z0 lx
        · have := zlF c3
          rw [z0_eq] at this
          show lx.tdiv ly ≤ X.tdiv Y
          refine Int.le_trans ?_ (Int.tdiv_le_tdiv (by omega) h1)
          exact zd_neg (by omega) (by omega) h3
        · have := zl c3
          rw [z0_eq] at this
          show lx.tdiv uy ≤ X.tdiv Y
          refine Int.le_trans ?_ (Int.tdiv_le_tdiv (by omega) h1)
          exact zd_pos (by omega) (by omega) h4
      · cases c3 : zle z0 ux
        · have := zlF c3
          rw [z0_eq] at this
          show X.tdiv Y ≤ ux.tdiv uy
          refine Int.le_trans (Int.tdiv_le_tdiv (by omega) h2) ?_
          exact zd_neg (by omega) (by omega) h4
        · have := zl c3
          rw [z0_eq] at this
          show X.tdiv Y ≤ ux.tdiv ly
          refine Int.le_trans (Int.tdiv_le_tdiv (by omega) h2) ?_
          exact zd_pos (by omega) (by omega) h3
    · obtain ⟨d1, d2⟩ := zAnd c2
      have := ze d1
      have := ze d2
      exact znC (by rw [show X = lx by omega, show Y = ly by omega])
  · rcases zCd h with ⟨c, h⟩ | ⟨-, h⟩
    · have c := zl c
      rw [show Int.negSucc 0 = -1 from rfl] at c
      have := zWr_rg (z := X.tdiv Y) hw
      exact ⟨by omega, _, znR this.1 this.2, h⟩
    · cases h
end ZAR
section ZOP
variable {ρ : Nat → Int} {n : Nat} {σ : zS} {x y : zV} {a b : Int32} {p q : Int64} {k : zV → Bool}
theorem zo_add (hs : zSok ρ n σ) (hx : zN ρ n 0 x a.toInt) (hy : zN ρ n 0 y b.toInt) (h : zAdd 0 σ x y k = true) : ∃ v, zN ρ n 0 v (a + b).toInt ∧ k v = true := by
  rw [Int32.toInt_add]
  exact zAdd_s (Or.inl rfl) hs hx hy h
theorem zo_sub (hs : zSok ρ n σ) (hx : zN ρ n 0 x a.toInt) (hy : zN ρ n 0 y b.toInt) (h : zSub 0 σ x y k = true) : ∃ v, zN ρ n 0 v (a - b).toInt ∧ k v = true := by
  rw [Int32.toInt_sub]
  exact zSub_s (Or.inl rfl) hs hx hy h
theorem zo_neg (hs : zSok ρ n σ) (hx : zN ρ n 0 x a.toInt) (h : zSub 0 σ (zc 0 z0) x k = true) : ∃ v, zN ρ n 0 v (-a).toInt ∧ k v = true := by
  have h2 := zSub_s (X := 0) (Or.inl rfl) hs (znC (c := z0) rfl) hx h
  rwa [show (0 : Int) - a.toInt = -a.toInt by omega, show zWr 0 (-a.toInt) = (-a).toInt from (Int32.toInt_neg a).symm] at h2
theorem zo_mul (hs : zSok ρ n σ) (hx : zN ρ n 0 x a.toInt) (hy : zN ρ n 0 y b.toInt) (h : zMul 0 σ x y k = true) : ∃ v, zN ρ n 0 v (a * b).toInt ∧ k v = true := by
  rw [Int32.toInt_mul]
  exact zMul_s (Or.inl rfl) hs hx hy h
theorem zo_div (hs : zSok ρ n σ) (hx : zN ρ n 0 x a.toInt) (hy : zN ρ n 0 y b.toInt) (h : zDiv 0 σ x y k = true) : b ≠ 0 ∧ ∃ v, zN ρ n 0 v (a / b).toInt ∧ k v = true := by
  rw [Int32.toInt_div]
  have h2 := zDiv_s (Or.inl rfl) hs hx hy (zI32_rg a).1 (zI32_rg a).2 h
  exact ⟨fun e => h2.1 (by rw [e]; rfl), h2.2⟩
theorem zo_ladd (hs : zSok ρ n σ) (hx : zN ρ n 2 x p.toInt) (hy : zN ρ n 2 y q.toInt) (h : zAdd 2 σ x y k = true) : ∃ v, zN ρ n 2 v (p + q).toInt ∧ k v = true := by
  rw [Int64.toInt_add]
  exact zAdd_s (Or.inr rfl) hs hx hy h
theorem zo_lsub (hs : zSok ρ n σ) (hx : zN ρ n 2 x p.toInt) (hy : zN ρ n 2 y q.toInt) (h : zSub 2 σ x y k = true) : ∃ v, zN ρ n 2 v (p - q).toInt ∧ k v = true := by
  rw [Int64.toInt_sub]
  exact zSub_s (Or.inr rfl) hs hx hy h
theorem zo_lmul (hs : zSok ρ n σ) (hx : zN ρ n 2 x p.toInt) (hy : zN ρ n 2 y q.toInt) (h : zMul 2 σ x y k = true) : ∃ v, zN ρ n 2 v (p * q).toInt ∧ k v = true := by
  rw [Int64.toInt_mul]
  exact zMul_s (Or.inr rfl) hs hx hy h
theorem zo_ldiv (hs : zSok ρ n σ) (hx : zN ρ n 2 x p.toInt) (hy : zN ρ n 2 y q.toInt) (h : zDiv 2 σ x y k = true) : q ≠ 0 ∧ ∃ v, zN ρ n 2 v (p / q).toInt ∧ k v = true := by
  rw [Int64.toInt_div]
  have h2 := zDiv_s (Or.inr rfl) hs hx hy (zI64_rg p).1 (zI64_rg p).2 h
  exact ⟨fun e => h2.1 (by rw [e]; rfl), h2.2⟩
theorem zrem_eq (a b : Int32) (hb : 1 ≤ b.toInt) : (a - a / b * b).toInt = a.toInt.tmod b.toInt := by
  have hr := zd_rg (a := a.toInt) (b := b.toInt) hb
  have h1 := a.le_toInt
  have h2 := a.toInt_lt
  have hd : (a / b).toInt = a.toInt.tdiv b.toInt := by
    rw [Int32.toInt_div]
    refine zWr_id (w := 0) (Or.inl rfl) ?_ ?_
    · show (-2147483648 : Int) ≤ _
      by_cases q : 0 ≤ a.toInt
      · have := hr.1 q; omega
      · have := hr.2 (by omega); omega
    · show _ ≤ (2147483647 : Int)
      by_cases q : 0 ≤ a.toInt
      · have := hr.1 q; omega
      · have := hr.2 (by omega); omega
  have hm := Int.tmod_def a.toInt b.toInt
  have hlt := Int.tmod_lt_of_pos a.toInt (show 0 < b.toInt by omega)
  have hgt := Int.lt_tmod_of_pos a.toInt (show 0 < b.toInt by omega)
  have hbl := b.toInt_lt
  rw [Int32.toInt_sub, Int32.toInt_mul, hd, Int.sub_bmod_bmod, Int.mul_comm, ← hm]
  refine zWr_id (w := 0) (Or.inl rfl) ?_ ?_
  · show (-2147483648 : Int) ≤ _
    omega
  · show _ ≤ (2147483647 : Int)
    omega
theorem zo_rem (hs : zSok ρ n σ) (hx : zN ρ n 0 x a.toInt) (hy : zN ρ n 0 y b.toInt) (h : zRem σ x y k = true) : b ≠ 0 ∧ ∃ v, zN ρ n 0 v (a - a / b * b).toInt ∧ k v = true := by
  unfold zRem at h
  obtain ⟨lx, ux, ly, uy, h1, h2, h3, h4, h⟩ := zRg2_s hs hx hy h
  unfold zRemK at h
  rcases zCd h with ⟨c, h⟩ | ⟨-, h⟩
  · have c := zl c
    rw [z1_eq] at c
    refine ⟨fun e => by rw [e] at h4 h3; have : (0 : Int32).toInt = 0 := rfl; omega, _, ?_, h⟩
    rw [zrem_eq a b (by omega)]
    unfold zRemV
    cases c2 : (zeq lx ux && zeq ly uy)
    · have hlt := Int.tmod_lt_of_pos a.toInt (show 0 < b.toInt by omega)
      have hgt := Int.lt_tmod_of_pos a.toInt (show 0 < b.toInt by omega)
      refine znR (w := 0) ?_ ?_
      · cases c3 : zle z0 lx
        · show z1 - uy ≤ _
          rw [z1_eq]
          omega
        · have := zl c3
          rw [z0_eq] at this
          exact Int.tmod_nonneg _ (by omega)
      · rw [z1_eq]
        omega
    · obtain ⟨d1, d2⟩ := zAnd c2
      have := ze d1
      have := ze d2
      exact znC (by rw [show a.toInt = lx by omega, show b.toInt = ly by omega])
  · rcases zCd h with ⟨c, h⟩ | ⟨-, h⟩
    · have c := zl c
      rw [show Int.negSucc 0 = -1 from rfl] at c
      exact ⟨fun e => by rw [e] at h4 h3; have : (0 : Int32).toInt = 0 := rfl; omega, _, znR (w := 0) (zI32_rg _).1 (zI32_rg _).2, h⟩
    · cases h
theorem zo_bits {f : Int32 → Int32 → Int32} {g : Int → Int → Int → Int → zV} (hg : ∀ lx ux ly uy, lx ≤ a.toInt → a.toInt ≤ ux → ly ≤ b.toInt → b.toInt ≤ uy → zN ρ n 0 (g lx ux ly uy) (f a b).toInt) (hs : zSok ρ n σ) (hx : zN ρ n 0 x a.toInt) (hy : zN ρ n 0 y b.toInt) (h : zBits f g σ x y k = true) : ∃ v, zN ρ n 0 v (f a b).toInt ∧ k v = true := by
  unfold zBits at h
  obtain ⟨lx, ux, ly, uy, h1, h2, h3, h4, h⟩ := zRg2_s hs hx hy h
  rcases zCd h with ⟨c, h⟩ | ⟨-, h⟩
  · obtain ⟨d1, d2⟩ := zAnd c
    have := ze d1
    have := ze d2
    refine ⟨_, znC ?_, h⟩
    rw [show lx = a.toInt by omega, show ly = b.toInt by omega, Int32.ofInt_toInt, Int32.ofInt_toInt]
  · exact ⟨_, hg _ _ _ _ h1 h2 h3 h4, h⟩
theorem zAny_s (a : Int32) : zN ρ n 0 zAny a.toInt := znR (w := 0) (zI32_rg a).1 (zI32_rg a).2
theorem znat {a : Int32} (h : 0 ≤ a.toInt) : a.toInt = (a.toBitVec.toNat : Int) := by
  have e : a.toInt = a.toBitVec.toInt := rfl
  have h1 := BitVec.toInt_eq_toNat_cond a.toBitVec
  have h2 := a.toBitVec.isLt
  rw [e] at h ⊢
  rw [h1] at h ⊢
  split at h
  · rename_i q
    rw [if_pos q]
  · omega
theorem zand1 {a b : Int32} (h : 0 ≤ a.toInt) : 0 ≤ (a &&& b).toInt ∧ (a &&& b).toInt ≤ a.toInt := by
  have e : (a &&& b).toInt = (a.toBitVec &&& b.toBitVec).toInt := by rw [← Int32.toInt_toBitVec, Int32.toBitVec_and]
  have h1 := znat h
  have h2 := a.toInt_lt
  have h3 : (a.toBitVec &&& b.toBitVec).toNat ≤ a.toBitVec.toNat := by rw [BitVec.toNat_and]; exact Nat.and_le_left
  have h4 := BitVec.toInt_eq_toNat_of_lt (x := a.toBitVec &&& b.toBitVec) (by omega)
  rw [e, h4]
  omega
theorem zand2 {a b : Int32} (h : 0 ≤ b.toInt) : 0 ≤ (a &&& b).toInt ∧ (a &&& b).toInt ≤ b.toInt := by
  have : a &&& b = b &&& a := Int32.and_comm a b
  rw [this]
  exact zand1 h
theorem zg_and (lx ux ly uy : Int) (h1 : lx ≤ a.toInt) (h2 : a.toInt ≤ ux) (h3 : ly ≤ b.toInt) (h4 : b.toInt ≤ uy) : zN ρ n 0 (zgAnd lx ux ly uy) (a &&& b).toInt := by
  unfold zgAnd
  cases c1 : zle z0 lx
  · cases c2 : zle z0 ly
    · exact zAny_s _
    · have := zl c2
      rw [z0_eq] at this
      have q := zand2 (a := a) (b := b) (by omega)
      exact znZ q.1 (by omega)
  · have c1 := zl c1
    rw [z0_eq] at c1
    have q := zand1 (a := a) (b := b) (by omega)
    cases c2 : zle z0 ly
    · exact znZ q.1 (by omega)
    · have := zl c2
      rw [z0_eq] at this
      have q2 := zand2 (a := a) (b := b) (by omega)
      exact znZ q.1 (le_zmin (by omega) (by omega))
theorem z01 {a : Int32} (h1 : 0 ≤ a.toInt) (h2 : a.toInt ≤ 1) : a = 0 ∨ a = 1 := by
  by_cases q : a.toInt = 0
  · exact Or.inl (Int32.toInt_inj.mp q)
  · exact Or.inr (Int32.toInt_inj.mp (show a.toInt = (1 : Int32).toInt by have : (1 : Int32).toInt = 1 := rfl; omega))
theorem zg_or (lx ux ly uy : Int) (h1 : lx ≤ a.toInt) (h2 : a.toInt ≤ ux) (h3 : ly ≤ b.toInt) (h4 : b.toInt ≤ uy) : zN ρ n 0 (zgBit lx ux ly uy) (a ||| b).toInt := by
  unfold zgBit
  cases c : ((zle z0 lx && zle ux z1) && (zle z0 ly && zle uy z1))
  · exact zAny_s _
  · obtain ⟨c1, c2⟩ := zAnd c
    obtain ⟨d1, d2⟩ := zAnd c1
    obtain ⟨d3, d4⟩ := zAnd c2
    have d1 := zl d1
    have d2 := zl d2
    have d3 := zl d3
    have d4 := zl d4
    rw [z0_eq] at d1 d3
    rw [z1_eq] at d2 d4
    refine znR (w := 0) ?_ ?_
    · rcases z01 (a := a) (by omega) (by omega) with rfl | rfl <;> rcases z01 (a := b) (by omega) (by omega) with rfl | rfl <;> decide
    · rcases z01 (a := a) (by omega) (by omega) with rfl | rfl <;> rcases z01 (a := b) (by omega) (by omega) with rfl | rfl <;> decide
theorem zg_top {f : Int32 → Int32 → Int32} (lx ux ly uy : Int) (_ : lx ≤ a.toInt) (_ : a.toInt ≤ ux) (_ : ly ≤ b.toInt) (_ : b.toInt ≤ uy) : zN ρ n 0 (zgTop lx ux ly uy) (f a b).toInt := zAny_s _
theorem zg_ush (lx ux ly uy : Int) (_ : lx ≤ a.toInt) (_ : a.toInt ≤ ux) (h3 : ly ≤ b.toInt) (h4 : b.toInt ≤ uy) : zN ρ n 0 (zgUsh lx ux ly uy) ((a.toUInt32 >>> (b.toUInt32 &&& Int32.toUInt32 31)).toInt32).toInt := by
  unfold zgUsh
  cases c : (zeq ly uy && (zle z1 ly && zle uy (Int.ofNat 31)))
  · exact zAny_s _
  · obtain ⟨c1, c2⟩ := zAnd c
    obtain ⟨c2, c3⟩ := zAnd c2
    have c1 := ze c1
    have c2 := zl c2
    have c3 := zl c3
    rw [z1_eq] at c2
    have e31 : Int.ofNat 31 = 31 := rfl
    rw [e31] at c3
    obtain ⟨m, hm⟩ : ∃ m : Nat, ly = (m : Int) := ⟨ly.toNat, by omega⟩
    have hb : b = Int32.ofNat m := by
      apply Int32.toInt_inj.mp
      rw [Int32.toInt_ofNat_of_lt (by omega)]
      omega
    subst hb
    have hm1 : 1 ≤ m := by omega
    have hm2 : m ≤ 31 := by omega
    have e1 : ((Int32.ofNat m).toUInt32 &&& Int32.toUInt32 31).toNat = m := by
      have : ∀ m : Nat, m ≤ 31 → ((Int32.ofNat m).toUInt32 &&& Int32.toUInt32 31).toNat = m := by decide
      exact this m hm2
    have e2 : (a.toUInt32 >>> ((Int32.ofNat m).toUInt32 &&& Int32.toUInt32 31)).toNat = a.toUInt32.toNat >>> m := by
      rw [UInt32.toNat_shiftRight, e1, Nat.mod_eq_of_lt (by omega)]
    have hlt : a.toUInt32.toNat < 2 ^ 32 := a.toUInt32.toNat_lt
    have hsh : a.toUInt32.toNat >>> m < 2 ^ (32 - m) := by
      rw [Nat.shiftRight_eq_div_pow, Nat.div_lt_iff_lt_mul (Nat.two_pow_pos m), ← Nat.pow_add]
      rwa [show 32 - m + m = 32 by omega]
    have hle : 2 ^ (32 - m) ≤ 2 ^ 31 := Nat.pow_le_pow_right (by omega) (by omega)
    have e3 : ((a.toUInt32 >>> ((Int32.ofNat m).toUInt32 &&& Int32.toUInt32 31)).toInt32).toInt = ((a.toUInt32.toNat >>> m : Nat) : Int) := by
      show (a.toUInt32 >>> ((Int32.ofNat m).toUInt32 &&& Int32.toUInt32 31)).toBitVec.toInt = _
      have h9 : (a.toUInt32 >>> ((Int32.ofNat m).toUInt32 &&& Int32.toUInt32 31)).toBitVec.toNat = a.toUInt32.toNat >>> m := e2
      rw [BitVec.toInt_eq_toNat_of_lt (by rw [h9]; omega), h9]
    rw [e3]
    refine znR (w := 0) (by rw [z0_eq]; omega) ?_
    show ((a.toUInt32.toNat >>> m : Nat) : Int) ≤ ((2 ^ (32 - ly.toNat) - 1 : Nat) : Int)
    rw [show ly.toNat = m by omega]
    omega
theorem zo_i2l (hx : zN ρ n 0 x a.toInt) (h : zI2l σ x k = true) : ∃ v, zN ρ n 2 v a.toInt64.toInt ∧ k v = true := by
  unfold zI2l at h
  rcases zCd h with ⟨-, h⟩ | ⟨-, h⟩
  · refine ⟨_, ?_, h⟩
    rw [Int32.toInt_toInt64]
    rcases hx with ⟨h1, h2, h3⟩ | ⟨h1, h2, h3⟩
    · exact Or.inl ⟨by show x.1 + 2 = 2; omega, h2, h3⟩
    · exact Or.inr ⟨by show x.1 + 2 = 3; omega, h2, h3⟩
  · cases h
theorem zo_l2i (hs : zSok ρ n σ) (hx : zN ρ n 2 x p.toInt) (h : zL2i σ x k = true) : ∃ v, zN ρ n 0 v p.toInt32.toInt ∧ k v = true := by
  unfold zL2i at h
  obtain ⟨lo, hi, h1, h2, h⟩ := zRg_s hs hx h
  rcases zCd h with ⟨c, h⟩ | ⟨-, h⟩
  · obtain ⟨c1, c2⟩ := zAnd c
    have c1 := zl c1
    have c2 := zl c2
    refine ⟨_, ?_, h⟩
    have e : p.toInt32.toInt = p.toInt := by
      rw [Int64.toInt_toInt32]
      exact zWr_id (w := 0) (Or.inl rfl) (by omega) (by omega)
    rw [e]
    rcases hx with ⟨h1, h2, h3⟩ | ⟨h1, h2, h3⟩
    · exact Or.inl ⟨by show x.1 - 2 = 0; omega, h2, h3⟩
    · exact Or.inr ⟨by show x.1 - 2 = 1; omega, h2, h3⟩
  · exact ⟨_, zAny_s _, h⟩
theorem zo_lsh (hs : zSok ρ n σ) (hx : zN ρ n 2 x p.toInt) (hy : zN ρ n 0 y b.toInt) (h : zLsh σ x y k = true) : ∃ v, zN ρ n 2 v (p <<< (b.toInt64 &&& 63)).toInt ∧ k v = true := by
  unfold zLsh at h
  obtain ⟨lx, ux, h1, h2, h⟩ := zRg_s hs hx h
  obtain ⟨ly, uy, h3, h4, h⟩ := zRg_s hs hy h
  rcases zCd h with ⟨c, h⟩ | ⟨-, h⟩
  · obtain ⟨d1, d2⟩ := zAnd c
    have := ze d1
    have := ze d2
    refine ⟨_, znC ?_, h⟩
    rw [show lx = p.toInt by omega, show ly = b.toInt by omega, Int32.ofInt_toInt, Int64.ofInt_toInt]
  · have := zI64_rg (p <<< (b.toInt64 &&& 63))
    exact ⟨_, znR (w := 2) this.1 this.2, h⟩
theorem zo_abs (hs : zSok ρ n σ) (hx : zN ρ n 0 x a.toInt) (h : zAbs σ x k = true) : ∃ v, zN ρ n 0 v (if 0 ≤ a then a else 0 - a).toInt ∧ k v = true := by
  unfold zAbs at h
  obtain ⟨lx, ux, h1, h2, h⟩ := zRg_s hs hx h
  have hz : (0 : Int32).toInt = 0 := rfl
  have hge : 0 ≤ a ↔ 0 ≤ a.toInt := by rw [Int32.le_iff_toInt_le, hz]
  rcases zCd h with ⟨c, h⟩ | ⟨c, h⟩
  · have c := zl c
    rw [z0_eq] at c
    rw [if_pos (hge.mpr (by omega))]
    exact ⟨_, hx, h⟩
  · rcases zCd h with ⟨c2, h⟩ | ⟨c2, h⟩
    · have c2 := zl c2
      rw [z0_eq] at c2
      have h3 := zSub_s (X := 0) (Or.inl rfl) hs (znC (c := z0) rfl) hx h
      have e : (if 0 ≤ a then a else 0 - a).toInt = zWr 0 (0 - a.toInt) := by
        split
        · rename_i q
          have q := hge.mp q
          have e0 : a.toInt = 0 := by omega
          rw [e0]
          rfl
        · rw [Int32.toInt_sub]
          rfl
      rw [e]
      exact h3
    · rcases zCd h with ⟨c3, h⟩ | ⟨-, h⟩
      · have c3 := zl c3
        have hm : zMn 0 = -2147483648 := rfl
        rw [hm, z1_eq] at c3
        refine ⟨_, ?_, h⟩
        have hM := le_zmax (x := -lx) (y := ux)
        split
        · rename_i q
          have q := hge.mp q
          exact znR (w := 0) (by rw [z0_eq]; omega) (by omega)
        · rename_i q
          have q : a.toInt < 0 := by
            have : ¬ 0 ≤ a.toInt := fun z => q (hge.mpr z)
            omega
          have e : (0 - a).toInt = -a.toInt := by
            rw [Int32.toInt_sub]
            have := zWr_id (w := 0) (z := 0 - a.toInt) (Or.inl rfl) (by show (-2147483648 : Int) ≤ _; omega) (by show _ ≤ (2147483647 : Int); omega)
            exact this.trans (by omega)
          rw [e]
          exact znR (w := 0) (by rw [z0_eq]; omega) (by omega)
      · exact ⟨_, zAny_s _, h⟩
theorem zo_fld (hs : zSok ρ n σ) (hx : zN ρ n 0 x a.toInt) (hy : zN ρ n 0 y b.toInt) (h : zFld σ x y k = true) : b ≠ 0 ∧ ∃ v, zN ρ n 0 v (if (a ^^^ b) < 0 then if a / b * b = a then a / b else a / b - 1 else a / b).toInt ∧ k v = true := by
  unfold zFld at h
  obtain ⟨lx, ux, ly, uy, h1, h2, h3, h4, h⟩ := zRg2_s hs hx hy h
  unfold zFldK at h
  have hz : (0 : Int32).toInt = 0 := rfl
  rcases zCd h with ⟨c, h⟩ | ⟨c, h⟩
  · have c := zl c
    rw [z1_eq] at c
    refine ⟨fun e => by rw [e] at h3; omega, ?_⟩
    have hb : 1 ≤ b.toInt := by omega
    have ha1 := a.le_toInt
    have ha2 := a.toInt_lt
    have hr := zd_rg (a := a.toInt) (b := b.toInt) hb
    have hd : (a / b).toInt = a.toInt.tdiv b.toInt := by
      rw [Int32.toInt_div]
      refine zWr_id (w := 0) (Or.inl rfl) ?_ ?_
      · show (-2147483648 : Int) ≤ _
        by_cases q : 0 ≤ a.toInt
        · have := hr.1 q; omega
        · have := hr.2 (by omega); omega
      · show _ ≤ (2147483647 : Int)
        by_cases q : 0 ≤ a.toInt
        · have := hr.1 q; omega
        · have := hr.2 (by omega); omega
    have hmod := Int.tmod_def a.toInt b.toInt
    -- the sign
    have hsg : (a ^^^ b) < 0 ↔ a.toInt < 0 := by
      have hbm : b.toBitVec.msb = false := by
        rw [BitVec.msb_eq_toInt]
        have : b.toBitVec.toInt = b.toInt := rfl
        simp only [this, decide_eq_false_iff_not]
        omega
      rw [Int32.lt_iff_toInt_lt, hz]
      have e1 : (a ^^^ b).toInt = (a.toBitVec ^^^ b.toBitVec).toInt := by rw [← Int32.toInt_toBitVec, Int32.toBitVec_xor]
      rw [e1]
      have m1 := BitVec.msb_eq_toInt (x := a.toBitVec ^^^ b.toBitVec)
      have m2 := BitVec.msb_eq_toInt (x := a.toBitVec)
      rw [BitVec.msb_xor, hbm, Bool.xor_false] at m1
      rw [m1] at m2
      have e3 : a.toBitVec.toInt = a.toInt := rfl
      rw [e3] at m2
      exact decide_eq_decide.mp m2
    have hmul : a / b * b = a ↔ a.toInt.tmod b.toInt = 0 := by
      constructor
      · intro e
        have e2 : a - a / b * b = 0 := by rw [e]; exact Int32.sub_self a
        have e3 := zrem_eq a b hb
        rw [e2] at e3
        rw [← e3]
        rfl
      · intro e
        have e3 := zrem_eq a b hb
        rw [e] at e3
        have e4 : a - a / b * b = 0 := Int32.toInt_inj.mp (by rw [e3]; rfl)
        have e5 := Int32.sub_add_cancel a (a / b * b)
        rw [e4, Int32.zero_add] at e5
        exact e5
    have hval : (if (a ^^^ b) < 0 then if a / b * b = a then a / b else a / b - 1 else a / b).toInt = a.toInt / b.toInt := by
      by_cases q : a.toInt < 0
      · rw [if_pos (hsg.mpr q)]
        have hneg : a.toInt.tdiv b.toInt = -((-a.toInt) / b.toInt) := by
          have := Int.neg_tdiv (-a.toInt) b.toInt
          rw [Int.neg_neg] at this
          rw [this, Int.tdiv_eq_ediv_of_nonneg (by omega)]
        have hA := Int.ediv_mul_le (-a.toInt) (b := b.toInt) (by omega)
        have hB := Int.lt_ediv_add_one_mul_self (-a.toInt) (show 0 < b.toInt by omega)
        have hC := Int.ediv_mul_le a.toInt (b := b.toInt) (by omega)
        have hD := Int.lt_ediv_add_one_mul_self a.toInt (show 0 < b.toInt by omega)
        by_cases q2 : a.toInt.tmod b.toInt = 0
        · rw [if_pos (hmul.mpr q2), hd]
          have h5 : b.toInt * a.toInt.tdiv b.toInt = a.toInt := by omega
          have h6 : a.toInt / b.toInt = a.toInt.tdiv b.toInt := by
            conv => lhs; rw [← h5]
            exact Int.mul_ediv_cancel_left _ (by omega)
          exact h6.symm
        · rw [if_neg (fun z => q2 (hmul.mp z)), Int32.toInt_sub, hd]
          have hlt := Int.tmod_lt_of_pos a.toInt (show 0 < b.toInt by omega)
          have hgt := Int.lt_tmod_of_pos a.toInt (show 0 < b.toInt by omega)
          have h7 := hr.2 (by omega)
          have hneg2 : a.toInt.tmod b.toInt < 0 := by
            have := Int.neg_tmod (-a.toInt) b.toInt
            rw [Int.neg_neg] at this
            have := Int.tmod_nonneg (a := -a.toInt) b.toInt (by omega)
            omega
          have h8 : a.toInt / b.toInt = a.toInt.tdiv b.toInt - 1 := by
            have e1 : a.toInt = b.toInt * (a.toInt.tdiv b.toInt - 1) + (a.toInt.tmod b.toInt + b.toInt) := by
              rw [Int.mul_sub]
              omega
            rw [e1, Int.mul_add_ediv_left _ _ (by omega), Int.ediv_eq_zero_of_lt (by omega) (by omega), ← e1]
            omega
          rw [h8]
          have e1 : (1 : Int32).toInt = 1 := rfl
          rw [e1]
          refine zWr_id (w := 0) (Or.inl rfl) ?_ ?_
          · show (-2147483648 : Int) ≤ _
            have hne : a.toInt.tdiv b.toInt ≠ a.toInt ∨ b.toInt = 1 := by
              by_cases h1b : b.toInt = 1
              · exact Or.inr h1b
              · refine Or.inl (fun e => ?_)
                rw [e] at hmod
                have h9 : 2 * a.toInt ≥ b.toInt * a.toInt := by
                  have := Int.mul_le_mul_of_nonpos_right (show (2 : Int) ≤ b.toInt by omega) (show a.toInt ≤ 0 by omega)
                  omega
                omega
            rcases hne with hne | hb1
            · omega
            · rw [hb1] at hneg2
              have : a.toInt.tmod 1 = 0 := by rw [Int.tmod_def, Int.tdiv_one]; omega
              omega
          · show _ ≤ (2147483647 : Int)
            omega
      · rw [if_neg (fun z => q (hsg.mp z)), hd, Int.tdiv_eq_ediv_of_nonneg (by omega)]
    rw [hval]
    rcases zCd h with ⟨c2, h⟩ | ⟨-, h⟩
    · obtain ⟨d1, d2⟩ := zAnd c2
      have := ze d1
      have := ze d2
      exact ⟨_, znC (by rw [show a.toInt = lx by omega, show b.toInt = ly by omega]), h⟩
    · refine ⟨_, znR (w := 0) ?_ ?_, h⟩
      · have hm := zmin_le (x := lx) (y := z0)
        rw [z0_eq] at hm ⊢
        by_cases q : 0 ≤ a.toInt
        · have := Int.ediv_nonneg q (show 0 ≤ b.toInt by omega)
          omega
        · have hle : a.toInt ≤ a.toInt / b.toInt := by
            rw [Int.le_ediv_iff_mul_le (by omega)]
            have := Int.mul_le_mul_of_nonpos_left (show a.toInt ≤ 0 by omega) hb
            omega
          omega
      · have hM := le_zmax (x := ux) (y := z0)
        rw [z0_eq] at hM ⊢
        by_cases q : 0 ≤ a.toInt
        · have : a.toInt / b.toInt ≤ a.toInt := Int.ediv_le_self _ q
          omega
        · have : a.toInt / b.toInt < 0 := Int.ediv_neg_of_neg_of_pos (by omega) (by omega)
          omega
  · rcases zCd h with ⟨c2, h⟩ | ⟨-, h⟩
    · have c2 := zl c2
      rw [show Int.negSucc 0 = -1 from rfl] at c2
      exact ⟨fun e => by rw [e] at h4; omega, _, zAny_s _, h⟩
    · cases h
end ZOP
section ZMM
variable {ρ : Nat → Int} {n w : Nat} {σ : zS} {x y : zV} {X Y : Int} {k : zV → Bool}
theorem zMm_s {up : Bool} {Z : Int} (hs : zSok ρ n σ) (hx : zN ρ n w x X) (hy : zN ρ n w y Y) (hZ : (X ≤ Y → Z = if up then Y else X) ∧ (Y ≤ X → Z = if up then X else Y)) (h : zMm w up σ x y k = true) : ∃ v, zN ρ n w v Z ∧ k v = true := by
  unfold zMm at h
  obtain ⟨lx, ux, ly, uy, h1, h2, h3, h4, h⟩ := zRg2_s hs hx hy h
  refine ⟨_, ?_, h⟩
  unfold zMmV
  cases c1 : zle ux ly
  · cases c2 : zle uy lx
    · cases up
      · have hm := zmin_le (x := lx) (y := ly)
        have hm2 : zmin ux uy ≤ ux ∧ zmin ux uy ≤ uy := zmin_le
        show zN ρ n w (w + 1, zmin lx ly, zmin ux uy, 0) Z
        by_cases q : X ≤ Y
        · have := hZ.1 q
          simp only [Bool.false_eq_true, if_false] at this
          exact znR (by omega) (le_zmin (by omega) (by omega))
        · have := hZ.2 (by omega)
          simp only [Bool.false_eq_true, if_false] at this
          exact znR (by omega) (le_zmin (by omega) (by omega))
      · have hm := le_zmax (x := ux) (y := uy)
        show zN ρ n w (w + 1, zmax lx ly, zmax ux uy, 0) Z
        by_cases q : X ≤ Y
        · have := hZ.1 q
          simp only [if_true] at this
          exact znR (zmax_le (by omega) (by omega)) (by omega)
        · have := hZ.2 (by omega)
          simp only [if_true] at this
          exact znR (zmax_le (by omega) (by omega)) (by omega)
    · have := zl c2
      have := hZ.2 (by omega)
      cases up
      · simp only [Bool.false_eq_true, if_false] at this
        rw [this]
        exact hy
      · simp only [if_true] at this
        rw [this]
        exact hx
  · have := zl c1
    have := hZ.1 (by omega)
    cases up
    · simp only [Bool.false_eq_true, if_false] at this
      rw [this]
      exact hx
    · simp only [if_true] at this
      rw [this]
      exact hy
end ZMM
