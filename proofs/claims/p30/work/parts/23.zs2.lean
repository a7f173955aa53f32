/-! the interpreter's arithmetic -/
theorem zWr_id {w : Nat} {z : Int} (hw : w = 0 ∨ w = 2) (h1 : zMn w ≤ z) (h2 : z ≤ zMx w) : zWr w z = z := by
  unfold zWr
  rcases hw with rfl | rfl
  · have a : (-2147483648 : Int) ≤ z := h1
    have b : z ≤ 2147483647 := h2
    exact Int.bmod_eq_of_le (show -((4294967296 : Nat) / 2 : Int) ≤ z by omega) (show z < (((4294967296 : Nat) : Int) + 1) / 2 by omega)
  · have a : (-9223372036854775808 : Int) ≤ z := h1
    have b : z ≤ 9223372036854775807 := h2
    exact Int.bmod_eq_of_le (show -((18446744073709551616 : Nat) / 2 : Int) ≤ z by omega) (show z < (((18446744073709551616 : Nat) : Int) + 1) / 2 by omega)
theorem zWr_rg {w : Nat} {z : Int} (hw : w = 0 ∨ w = 2) : zMn w ≤ zWr w z ∧ zWr w z ≤ zMx w := by
  unfold zWr
  rcases hw with rfl | rfl
  · have a := Int.le_bmod (x := z) (m := 4294967296) (by omega)
    have b := Int.bmod_lt (x := z) (m := 4294967296) (by omega)
    refine ⟨?_, ?_⟩
    · show (-2147483648 : Int) ≤ Int.bmod z 4294967296
      omega
    · show Int.bmod z 4294967296 ≤ (2147483647 : Int)
      omega
  · have a := Int.le_bmod (x := z) (m := 18446744073709551616) (by omega)
    have b := Int.bmod_lt (x := z) (m := 18446744073709551616) (by omega)
    refine ⟨?_, ?_⟩
    · show (-9223372036854775808 : Int) ≤ Int.bmod z 18446744073709551616
      omega
    · show Int.bmod z 18446744073709551616 ≤ (9223372036854775807 : Int)
      omega
theorem zI32_rg (x : Int32) : zMn 0 ≤ x.toInt ∧ x.toInt ≤ zMx 0 := by
  have a := x.le_toInt
  have b := x.toInt_lt
  exact ⟨a, by show x.toInt ≤ 2147483647; omega⟩
theorem zI64_rg (x : Int64) : zMn 2 ≤ x.toInt ∧ x.toInt ≤ zMx 2 := by
  have a := x.le_toInt
  have b := x.toInt_lt
  exact ⟨a, by show x.toInt ≤ 9223372036854775807; omega⟩
section ZAR
variable {ρ : Nat → Int} {n w : Nat} {σ : zS} {v x y : zV} {X Y : Int} {k : zV → Bool}
theorem zAff_s {a b : Int} {s : Nat} (h1 : b = 0 ∨ s < n) (h2 : X = a + b * ρ s) : zN ρ n w (zAff w a b s) X := by
  unfold zAff
  cases h : zeq b z0
  · exact Or.inl ⟨rfl, h1, h2⟩
  · have := ze h
    rw [this] at h2
    exact znC (by rw [h2, z0_eq]; simp)
theorem zTag (h : zN ρ n w v X) : v.1 = w ∨ v.1 = w + 1 := by
  rcases h with ⟨h1, -⟩ | ⟨h1, -⟩
  · exact Or.inl h1
  · exact Or.inr h1
theorem zSh_s {c : Int} (h : zN ρ n w v X) : zN ρ n w (zSh w v c) (X + c) := by
  unfold zSh
  rcases h with ⟨h1, h2, h3⟩ | ⟨h1, h2, h3⟩
  · have e : Nat.beq v.1 w = true := by rw [h1]; exact Nat.beq_refl w
    rw [e]
    exact Or.inl ⟨rfl, h2, by show X + c = (v.2.1 + c) + v.2.2.1 * ρ v.2.2.2; omega⟩
  · have e : Nat.beq v.1 w = false := by
      cases hb : Nat.beq v.1 w
      · rfl
      · have := zbe hb; omega
    rw [e]
    exact znR (by omega) (by omega)
theorem zNg_s (h : zN ρ n w v X) : zN ρ n w (zNg w v) (-X) := by
  unfold zNg
  rcases h with ⟨h1, h2, h3⟩ | ⟨h1, h2, h3⟩
  · have e : Nat.beq v.1 w = true := by rw [h1]; exact Nat.beq_refl w
    rw [e]
    refine Or.inl ⟨rfl, ?_, ?_⟩
    · exact h2.imp (fun q => by show -v.2.2.1 = 0; omega) id
    · show -X = -v.2.1 + -v.2.2.1 * ρ v.2.2.2
      rw [Int.neg_mul]
      omega
  · have e : Nat.beq v.1 w = false := by
      cases hb : Nat.beq v.1 w
      · rfl
      · have := zbe hb; omega
    rw [e]
    exact znR (by omega) (by omega)
theorem zSc_s {c : Int} (h : zN ρ n w v X) : zN ρ n w (zSc w v c) (X * c) := by
  unfold zSc
  rcases h with ⟨h1, h2, h3⟩ | ⟨h1, h2, h3⟩
  · have e : Nat.beq v.1 w = true := by rw [h1]; exact Nat.beq_refl w
    rw [e]
    refine zAff_s ?_ ?_
    · rcases h2 with q | q
      · exact Or.inl (by rw [q]; simp)
      · exact Or.inr q
    · rw [h3, Int.add_mul, Int.mul_right_comm]
  · have e : Nat.beq v.1 w = false := by
      cases hb : Nat.beq v.1 w
      · rfl
      · have := zbe hb; omega
    rw [e]
    cases hc : zle z0 c
    · have := zlF hc
      have hc0 : c ≤ 0 := by rw [z0_eq] at this; omega
      exact znR (Int.mul_le_mul_of_nonpos_right h3 hc0) (Int.mul_le_mul_of_nonpos_right h2 hc0)
    · have := zl hc
      exact znR (Int.mul_le_mul_of_nonneg_right h2 this) (Int.mul_le_mul_of_nonneg_right h3 this)
theorem zOver_s {Z lx ux ly uy z : Int} (hw : w = 0 ∨ w = 2) (h1 : lx ≤ X) (h2 : X ≤ ux) (h3 : ly ≤ Y) (h4 : Y ≤ uy) (hz : lx = X → ly = Y → z = Z) : zN ρ n w (zOver w z lx ux ly uy) (zWr w Z) := by
  unfold zOver
  cases c : (zeq lx ux && zeq ly uy)
  · have := zWr_rg (z := Z) hw
    exact znR this.1 this.2
  · obtain ⟨c1, c2⟩ := zAnd c
    have := ze c1
    have := ze c2
    exact znC (by rw [hz (by omega) (by omega)])
theorem zAdd_s (hw : w = 0 ∨ w = 2) (hs : zSok ρ n σ) (hx : zN ρ n w x X) (hy : zN ρ n w y Y) (h : zAdd w σ x y k = true) : ∃ v, zN ρ n w v (zWr w (X + Y)) ∧ k v = true := by
  unfold zAdd at h
  obtain ⟨lx, ux, ly, uy, h1, h2, h3, h4, h⟩ := zRg2_s hs hx hy h
  unfold zAddK at h
  rcases zCd h with ⟨c, h⟩ | ⟨-, h⟩
  · obtain ⟨c1, c2⟩ := zAnd c
    have := zl c1
    have := zl c2
    refine ⟨_, ?_, h⟩
    rw [zWr_id hw (by omega) (by omega)]
    unfold zAddV
    cases c3 : zeq ly uy
    · cases c4 : zeq lx ux
      · cases c5 : zSame w x y
        · exact znR (by omega) (by omega)
        · unfold zSame at c5
          obtain ⟨d1, d2⟩ := zAnd c5
          obtain ⟨d2, d3⟩ := zAnd d2
          have d1 := zbe d1
          have d2 := zbe d2
          have d3 := zbe d3
          rcases hx with ⟨-, q2, q3⟩ | ⟨q1, -⟩
          · rcases hy with ⟨-, r2, r3⟩ | ⟨r1, -⟩
            · refine zAff_s ?_ ?_
              · rcases q2 with q2 | q2
                · rcases r2 with r2 | r2
                  · exact Or.inl (by omega)
                  · exact Or.inr (by omega)
                · exact Or.inr q2
              · rw [q3, r3, ← d3, Int.add_mul]
                omega
            · omega
          · omega
      · have := ze c4
        show zN ρ n w (zSh w y lx) (X + Y)
        have e : X + Y = Y + lx := by omega
        rw [e]
        exact zSh_s hy
    · have := ze c3
      show zN ρ n w (zSh w x ly) (X + Y)
      have e : X + Y = X + ly := by omega
      rw [e]
      exact zSh_s hx
  · exact ⟨_, zOver_s hw h1 h2 h3 h4 (fun a b => by rw [a, b]), h⟩
theorem zSub_s (hw : w = 0 ∨ w = 2) (hs : zSok ρ n σ) (hx : zN ρ n w x X) (hy : zN ρ n w y Y) (h : zSub w σ x y k = true) : ∃ v, zN ρ n w v (zWr w (X - Y)) ∧ k v = true := by
  unfold zSub at h
  rcases zCd h with ⟨-, h⟩ | ⟨-, h⟩
  · have := zAdd_s hw hs hx (zNg_s hy) h
    rwa [show X + -Y = X - Y by omega] at this
  · cases h
theorem zmul1 {a b c Z : Int} (h1 : a ≤ Z) (h2 : Z ≤ b) : zmin (a * c) (b * c) ≤ Z * c ∧ Z * c ≤ zmax (a * c) (b * c) := by
  have hm := zmin_le (x := a * c) (y := b * c)
  have hM := le_zmax (x := a * c) (y := b * c)
  by_cases hc : 0 ≤ c
  · have := Int.mul_le_mul_of_nonneg_right h1 hc
    have := Int.mul_le_mul_of_nonneg_right h2 hc
    omega
  · have := Int.mul_le_mul_of_nonpos_right h1 (show c ≤ 0 by omega)
    have := Int.mul_le_mul_of_nonpos_right h2 (show c ≤ 0 by omega)
    omega
theorem zmul4 {lx ux ly uy : Int} (h1 : lx ≤ X) (h2 : X ≤ ux) (h3 : ly ≤ Y) (h4 : Y ≤ uy) : zMin4 (lx * ly) (lx * uy) (ux * ly) (ux * uy) ≤ X * Y ∧ X * Y ≤ zMax4 (lx * ly) (lx * uy) (ux * ly) (ux * uy) := by
  unfold zMin4 zMax4
  have a := zmul1 (c := Y) h1 h2
  have b := zmul1 (c := lx) h3 h4
  have d := zmul1 (c := ux) h3 h4
  rw [Int.mul_comm Y lx, Int.mul_comm ly lx, Int.mul_comm uy lx] at b
  rw [Int.mul_comm Y ux, Int.mul_comm ly ux, Int.mul_comm uy ux] at d
  have p1 := zmin_le (x := zmin (lx * ly) (lx * uy)) (y := zmin (ux * ly) (ux * uy))
  have p2 := le_zmax (x := zmax (lx * ly) (lx * uy)) (y := zmax (ux * ly) (ux * uy))
  refine ⟨?_, ?_⟩
  · have q : zmin (zmin (lx * ly) (lx * uy)) (zmin (ux * ly) (ux * uy)) ≤ zmin (lx * Y) (ux * Y) := le_zmin (Int.le_trans p1.1 b.1) (Int.le_trans p1.2 d.1)
    exact Int.le_trans q a.1
  · have q : zmax (lx * Y) (ux * Y) ≤ zmax (zmax (lx * ly) (lx * uy)) (zmax (ux * ly) (ux * uy)) := zmax_le (Int.le_trans b.2 p2.1) (Int.le_trans d.2 p2.2)
    exact Int.le_trans a.2 q
theorem zMul_s (hw : w = 0 ∨ w = 2) (hs : zSok ρ n σ) (hx : zN ρ n w x X) (hy : zN ρ n w y Y) (h : zMul w σ x y k = true) : ∃ v, zN ρ n w v (zWr w (X * Y)) ∧ k v = true := by
  unfold zMul at h
  obtain ⟨lx, ux, ly, uy, h1, h2, h3, h4, h⟩ := zRg2_s hs hx hy h
  unfold zMulK at h
  have hb := zmul4 h1 h2 h3 h4
  rcases zCd h with ⟨c, h⟩ | ⟨-, h⟩
  · obtain ⟨c1, c2⟩ := zAnd c
    have := zl c1
    have := zl c2
    refine ⟨_, ?_, h⟩
    rw [zWr_id hw (by omega) (by omega)]
    unfold zMulV
    cases c3 : zeq ly uy
    · cases c4 : zeq lx ux
      · exact znR hb.1 hb.2
      · have := ze c4
        show zN ρ n w (zSc w y lx) (X * Y)
        have e : X * Y = Y * lx := by rw [show X = lx by omega, Int.mul_comm]
        rw [e]
        exact zSc_s hy
    · have := ze c3
      show zN ρ n w (zSc w x ly) (X * Y)
      have e : X * Y = X * ly := by rw [show Y = ly by omega]
      rw [e]
      exact zSc_s hx
  · exact ⟨_, zOver_s hw h1 h2 h3 h4 (fun a b => by rw [a, b]), h⟩
theorem zd_pos {a b c : Int} (ha : 0 ≤ a) (hb : 1 ≤ b) (hc : b ≤ c) : a.tdiv c ≤ a.tdiv b := by
  rw [Int.tdiv_eq_ediv_of_nonneg ha, Int.tdiv_eq_ediv_of_nonneg ha]
  have h1 : a / c * c ≤ a := Int.ediv_mul_le _ (by omega)
  rw [Int.le_ediv_iff_mul_le (by omega)]
  have h0 : 0 ≤ a / c := Int.ediv_nonneg ha (by omega)
  have := Int.mul_le_mul_of_nonneg_left hc h0
  omega
theorem zd_neg {a b c : Int} (ha : a ≤ 0) (hb : 1 ≤ b) (hc : b ≤ c) : a.tdiv b ≤ a.tdiv c := by
  have := zd_pos (a := -a) (by omega) hb hc
  rw [Int.neg_tdiv, Int.neg_tdiv] at this
  omega
theorem zd_rg {a b : Int} (hb : 1 ≤ b) : (0 ≤ a → 0 ≤ a.tdiv b ∧ a.tdiv b ≤ a) ∧ (a ≤ 0 → a ≤ a.tdiv b ∧ a.tdiv b ≤ 0) := by
  have key : ∀ z : Int, 0 ≤ z → 0 ≤ z.tdiv b ∧ z.tdiv b ≤ z := fun z hz => ⟨Int.tdiv_nonneg hz (by omega), Int.tdiv_le_self b hz⟩
  refine ⟨key a, fun h => ?_⟩
  have := key (-a) (by omega)
  rw [Int.neg_tdiv] at this
  omega
theorem zDiv_s (hw : w = 0 ∨ w = 2) (hs : zSok ρ n σ) (hx : zN ρ n w x X) (hy : zN ρ n w y Y) (hX1 : zMn w ≤ X) (hX2 : X ≤ zMx w) (h : zDiv w σ x y k = true) : Y ≠ 0 ∧ ∃ v, zN ρ n w v (zWr w (X.tdiv Y)) ∧ k v = true := by
  unfold zDiv at h
  obtain ⟨lx, ux, ly, uy, h1, h2, h3, h4, h⟩ := zRg2_s hs hx hy h
  unfold zDivK at h
  have hmn : zMn w ≤ 0 := by rcases hw with rfl | rfl <;> exact (by decide)
  have hmx : 0 ≤ zMx w := by rcases hw with rfl | rfl <;> exact (by decide)
  rcases zCd h with ⟨c, h⟩ | ⟨-, h⟩
  · have c := zl c
    rw [z1_eq] at c
    refine ⟨by omega, _, ?_, h⟩
    have hr := zd_rg (a := X) (b := Y) (by omega)
    have hid : zWr w (X.tdiv Y) = X.tdiv Y := by
      refine zWr_id hw ?_ ?_
      · by_cases q : 0 ≤ X
        · have := hr.1 q; omega
        · have := hr.2 (by omega); omega
      · by_cases q : 0 ≤ X
        · have := hr.1 q; omega
        · have := hr.2 (by omega); omega
    rw [hid]
    unfold zDivV
    cases c2 : (zeq lx ux && zeq ly uy)
    · refine znR ?_ ?_
      · cases c3 : zle z0 lx
        · have := zlF c3
          rw [z0_eq] at this
          show lx.tdiv ly ≤ X.tdiv Y
          refine Int.le_trans ?_ (Int.tdiv_le_tdiv (by omega) h1)
          exact zd_neg (by omega) (by omega) h3
        · have := zl c3
          rw [z0_eq] at this
          show lx.tdiv uy ≤ X.tdiv Y
          refine Int.le_trans ?_ (Int.tdiv_le_tdiv (by omega) h1)
          exact zd_pos (by omega) (by omega) h4
      · cases c3 : zle z0 ux
        · have := zlF c3
          rw [z0_eq] at this
          show X.tdiv Y ≤ ux.tdiv uy
          refine Int.le_trans (Int.tdiv_le_tdiv (by omega) h2) ?_
          exact zd_neg (by omega) (by omega) h4
        · have := zl c3
          rw [z0_eq] at this
          show X.tdiv Y ≤ ux.tdiv ly
          refine Int.le_trans (Int.tdiv_le_tdiv (by omega) h2) ?_
          exact zd_pos (by omega) (by omega) h3
    · obtain ⟨d1, d2⟩ := zAnd c2
      have := ze d1
      have := ze d2
      exact znC (by rw [show X = lx by omega, show Y = ly by omega])
  · rcases zCd h with ⟨c, h⟩ | ⟨-, h⟩
    · have c := zl c
      rw [show Int.negSucc 0 = -1 from rfl] at c
      have := zWr_rg (z := X.tdiv Y) hw
      exact ⟨by omega, _, znR this.1 this.2, h⟩
    · cases h
end ZAR
section ZOP
variable {ρ : Nat → Int} {n : Nat} {σ : zS} {x y : zV} {a b : Int32} {p q : Int64} {k : zV → Bool}
theorem zo_add (hs : zSok ρ n σ) (hx : zN ρ n 0 x a.toInt) (hy : zN ρ n 0 y b.toInt) (h : zAdd 0 σ x y k = true) : ∃ v, zN ρ n 0 v (a + b).toInt ∧ k v = true := by
  rw [Int32.toInt_add]
  exact zAdd_s (Or.inl rfl) hs hx hy h
theorem zo_sub (hs : zSok ρ n σ) (hx : zN ρ n 0 x a.toInt) (hy : zN ρ n 0 y b.toInt) (h : zSub 0 σ x y k = true) : ∃ v, zN ρ n 0 v (a - b).toInt ∧ k v = true := by
  rw [Int32.toInt_sub]
  exact zSub_s (Or.inl rfl) hs hx hy h
theorem zo_neg (hs : zSok ρ n σ) (hx : zN ρ n 0 x a.toInt) (h : zSub 0 σ (zc 0 z0) x k = true) : ∃ v, zN ρ n 0 v (-a).toInt ∧ k v = true := by
  have h2 := zSub_s (X := 0) (Or.inl rfl) hs (znC (c := z0) rfl) hx h
  rwa [show (0 : Int) - a.toInt = -a.toInt by omega, show zWr 0 (-a.toInt) = (-a).toInt from (Int32.toInt_neg a).symm] at h2
theorem zo_mul (hs : zSok ρ n σ) (hx : zN ρ n 0 x a.toInt) (hy : zN ρ n 0 y b.toInt) (h : zMul 0 σ x y k = true) : ∃ v, zN ρ n 0 v (a * b).toInt ∧ k v = true := by
  rw [Int32.toInt_mul]
  exact zMul_s (Or.inl rfl) hs hx hy h
theorem zo_div (hs : zSok ρ n σ) (hx : zN ρ n 0 x a.toInt) (hy : zN ρ n 0 y b.toInt) (h : zDiv 0 σ x y k = true) : b ≠ 0 ∧ ∃ v, zN ρ n 0 v (a / b).toInt ∧ k v = true := by
  rw [Int32.toInt_div]
  have h2 := zDiv_s (Or.inl rfl) hs hx hy (zI32_rg a).1 (zI32_rg a).2 h
  exact ⟨fun e => h2.1 (by rw [e]; rfl), h2.2⟩
theorem zo_ladd (hs : zSok ρ n σ) (hx : zN ρ n 2 x p.toInt) (hy : zN ρ n 2 y q.toInt) (h : zAdd 2 σ x y k = true) : ∃ v, zN ρ n 2 v (p + q).toInt ∧ k v = true := by
  rw [Int64.toInt_add]
  exact zAdd_s (Or.inr rfl) hs hx hy h
theorem zo_lsub (hs : zSok ρ n σ) (hx : zN ρ n 2 x p.toInt) (hy : zN ρ n 2 y q.toInt) (h : zSub 2 σ x y k = true) : ∃ v, zN ρ n 2 v (p - q).toInt ∧ k v = true := by
  rw [Int64.toInt_sub]
  exact zSub_s (Or.inr rfl) hs hx hy h
theorem zo_lmul (hs : zSok ρ n σ) (hx : zN ρ n 2 x p.toInt) (hy : zN ρ n 2 y q.toInt) (h : zMul 2 σ x y k = true) : ∃ v, zN ρ n 2 v (p * q).toInt ∧ k v = true := by
  rw [Int64.toInt_mul]
  exact zMul_s (Or.inr rfl) hs hx hy h
theorem zo_ldiv (hs : zSok ρ n σ) (hx : zN ρ n 2 x p.toInt) (hy : zN ρ n 2 y q.toInt) (h : zDiv 2 σ x y k = true) : q ≠ 0 ∧ ∃ v, zN ρ n 2 v (p / q).toInt ∧ k v = true := by
  rw [Int64.toInt_div]
  have h2 := zDiv_s (Or.inr rfl) hs hx hy (zI64_rg p).1 (zI64_rg p).2 h
  exact ⟨fun e => h2.1 (by rw [e]; rfl), h2.2⟩
theorem zrem_eq (a b : Int32) (hb : 1 ≤ b.toInt) : (a - a / b * b).toInt = a.toInt.tmod b.toInt := by
  have hr := zd_rg (a := a.toInt) (b := b.toInt) hb
  have h1 := a.le_toInt
  have h2 := a.toInt_lt
  have hd : (a / b).toInt = a.toInt.tdiv b.toInt := by
    rw [Int32.toInt_div]
    refine zWr_id (w := 0) (Or.inl rfl) ?_ ?_
    · show (-2147483648 : Int) ≤ _
      by_cases q : 0 ≤ a.toInt
      · have := hr.1 q; omega
      · have := hr.2 (by omega); omega
    · show _ ≤ (2147483647 : Int)
      by_cases q : 0 ≤ a.toInt
      · have := hr.1 q; omega
      · have := hr.2 (by omega); omega
  have hm := Int.tmod_def a.toInt b.toInt
  have hlt := Int.tmod_lt_of_pos a.toInt (show 0 < b.toInt by omega)
  have hgt := Int.lt_tmod_of_pos a.toInt (show 0 < b.toInt by omega)
  have hbl := b.toInt_lt
  rw [Int32.toInt_sub, Int32.toInt_mul, hd, Int.sub_bmod_bmod, Int.mul_comm, ← hm]
  refine zWr_id (w := 0) (Or.inl rfl) ?_ ?_
  · show (-2147483648 : Int) ≤ _
    omega
  · show _ ≤ (2147483647 : Int)
    omega
theorem zo_rem (hs : zSok ρ n σ) (hx : zN ρ n 0 x a.toInt) (hy : zN ρ n 0 y b.toInt) (h : zRem σ x y k = true) : b ≠ 0 ∧ ∃ v, zN ρ n 0 v (a - a / b * b).toInt ∧ k v = true := by
  unfold zRem at h
  obtain ⟨lx, ux, ly, uy, h1, h2, h3, h4, h⟩ := zRg2_s hs hx hy h
  unfold zRemK at h
  rcases zCd h with ⟨c, h⟩ | ⟨-, h⟩
  · have c := zl c
    rw [z1_eq] at c
    refine ⟨fun e => by rw [e] at h4 h3; have : (0 : Int32).toInt = 0 := rfl; omega, _, ?_, h⟩
    rw [zrem_eq a b (by omega)]
    unfold zRemV
    cases c2 : (zeq lx ux && zeq ly uy)
    · have hlt := Int.tmod_lt_of_pos a.toInt (show 0 < b.toInt by omega)
      have hgt := Int.lt_tmod_of_pos a.toInt (show 0 < b.toInt by omega)
      refine znR (w := 0) ?_ ?_
      · cases c3 : zle z0 lx
        · show z1 - uy ≤ _
          rw [z1_eq]
          omega
        · have := zl c3
          rw [z0_eq] at this
          exact Int.tmod_nonneg _ (by omega)
      · rw [z1_eq]
        omega
    · obtain ⟨d1, d2⟩ := zAnd c2
      have := ze d1
      have := ze d2
      exact znC (by rw [show a.toInt = lx by omega, show b.toInt = ly by omega])
  · rcases zCd h with ⟨c, h⟩ | ⟨-, h⟩
    · have c := zl c
      rw [show Int.negSucc 0 = -1 from rfl] at c
      exact ⟨fun e => by rw [e] at h4 h3; have : (0 : Int32).toInt = 0 := rfl; omega, _, znR (w := 0) (zI32_rg _).1 (zI32_rg _).2, h⟩
    · cases h
theorem zo_bits {f : Int32 → Int32 → Int32} {g : Int → Int → Int → Int → zV} (hg : ∀ lx ux ly uy, lx ≤ a.toInt → a.toInt ≤ ux → ly ≤ b.toInt → b.toInt ≤ uy → zN ρ n 0 (g lx ux ly uy) (f a b).toInt) (hs : zSok ρ n σ) (hx : zN ρ n 0 x a.toInt) (hy : zN ρ n 0 y b.toInt) (h : zBits f g σ x y k = true) : ∃ v, zN ρ n 0 v (f a b).toInt ∧ k v = true := by
  unfold zBits at h
  obtain ⟨lx, ux, ly, uy, h1, h2, h3, h4, h⟩ := zRg2_s hs hx hy h
  rcases zCd h with ⟨c, h⟩ | ⟨-, h⟩
  · obtain ⟨d1, d2⟩ := zAnd c
    have := ze d1
    have := ze d2
    refine ⟨_, znC ?_, h⟩
    rw [show lx = a.toInt by omega, show ly = b.toInt by omega, Int32.ofInt_toInt, Int32.ofInt_toInt]
  · exact ⟨_, hg _ _ _ _ h1 h2 h3 h4, h⟩
theorem zAny_s (a : Int32) : zN ρ n 0 zAny a.toInt := znR (w := 0) (zI32_rg a).1 (zI32_rg a).2
theorem znat {a : Int32} (h : 0 ≤ a.toInt) : a.toInt = (a.toBitVec.toNat : Int) := by
  have e : a.toInt = a.toBitVec.toInt := rfl
  have h1 := BitVec.toInt_eq_toNat_cond a.toBitVec
  have h2 := a.toBitVec.isLt
  rw [e] at h ⊢
  rw [h1] at h ⊢
  split at h
  · rename_i q
    rw [if_pos q]
  · omega
theorem zand1 {a b : Int32} (h : 0 ≤ a.toInt) : 0 ≤ (a &&& b).toInt ∧ (a &&& b).toInt ≤ a.toInt := by
  have e : (a &&& b).toInt = (a.toBitVec &&& b.toBitVec).toInt := by rw [← Int32.toInt_toBitVec, Int32.toBitVec_and]
  have h1 := znat h
  have h2 := a.toInt_lt
  have h3 : (a.toBitVec &&& b.toBitVec).toNat ≤ a.toBitVec.toNat := by rw [BitVec.toNat_and]; exact Nat.and_le_left
  have h4 := BitVec.toInt_eq_toNat_of_lt (x := a.toBitVec &&& b.toBitVec) (by omega)
  rw [e, h4]
  omega
theorem zand2 {a b : Int32} (h : 0 ≤ b.toInt) : 0 ≤ (a &&& b).toInt ∧ (a &&& b).toInt ≤ b.toInt := by
  have : a &&& b = b &&& a := Int32.and_comm a b
  rw [this]
  exact zand1 h
theorem zg_and (lx ux ly uy : Int) (h1 : lx ≤ a.toInt) (h2 : a.toInt ≤ ux) (h3 : ly ≤ b.toInt) (h4 : b.toInt ≤ uy) : zN ρ n 0 (zgAnd lx ux ly uy) (a &&& b).toInt := by
  unfold zgAnd
  cases c1 : zle z0 lx
  · cases c2 : zle z0 ly
    · exact zAny_s _
    · have := zl c2
      rw [z0_eq] at this
      have q := zand2 (a := a) (b := b) (by omega)
      exact znZ q.1 (by omega)
  · have c1 := zl c1
    rw [z0_eq] at c1
    have q := zand1 (a := a) (b := b) (by omega)
    cases c2 : zle z0 ly
    · exact znZ q.1 (by omega)
    · have := zl c2
      rw [z0_eq] at this
      have q2 := zand2 (a := a) (b := b) (by omega)
      exact znZ q.1 (le_zmin (by omega) (by omega))
theorem z01 {a : Int32} (h1 : 0 ≤ a.toInt) (h2 : a.toInt ≤ 1) : a = 0 ∨ a = 1 := by
  by_cases q : a.toInt = 0
  · exact Or.inl (Int32.toInt_inj.mp q)
  · exact Or.inr (Int32.toInt_inj.mp (show a.toInt = (1 : Int32).toInt by have : (1 : Int32).toInt = 1 := rfl; omega))
theorem zg_or (lx ux ly uy : Int) (h1 : lx ≤ a.toInt) (h2 : a.toInt ≤ ux) (h3 : ly ≤ b.toInt) (h4 : b.toInt ≤ uy) : zN ρ n 0 (zgBit lx ux ly uy) (a ||| b).toInt := by
  unfold zgBit
  cases c : ((zle z0 lx && zle ux z1) && (zle z0 ly && zle uy z1))
  · exact zAny_s _
  · obtain ⟨c1, c2⟩ := zAnd c
    obtain ⟨d1, d2⟩ := zAnd c1
    obtain ⟨d3, d4⟩ := zAnd c2
    have d1 := zl d1
    have d2 := zl d2
    have d3 := zl d3
    have d4 := zl d4
    rw [z0_eq] at d1 d3
    rw [z1_eq] at d2 d4
    refine znR (w := 0) ?_ ?_
    · rcases z01 (a := a) (by omega) (by omega) with rfl | rfl <;> rcases z01 (a := b) (by omega) (by omega) with rfl | rfl <;> decide
    · rcases z01 (a := a) (by omega) (by omega) with rfl | rfl <;> rcases z01 (a := b) (by omega) (by omega) with rfl | rfl <;> decide
theorem zg_top {f : Int32 → Int32 → Int32} (lx ux ly uy : Int) (_ : lx ≤ a.toInt) (_ : a.toInt ≤ ux) (_ : ly ≤ b.toInt) (_ : b.toInt ≤ uy) : zN ρ n 0 (zgTop lx ux ly uy) (f a b).toInt := zAny_s _
theorem zg_ush (lx ux ly uy : Int) (_ : lx ≤ a.toInt) (_ : a.toInt ≤ ux) (h3 : ly ≤ b.toInt) (h4 : b.toInt ≤ uy) : zN ρ n 0 (zgUsh lx ux ly uy) ((a.toUInt32 >>> (b.toUInt32 &&& Int32.toUInt32 31)).toInt32).toInt := by
  unfold zgUsh
  cases c : (zeq ly uy && (zle z1 ly && zle uy (Int.ofNat 31)))
  · exact zAny_s _
  · obtain ⟨c1, c2⟩ := zAnd c
    obtain ⟨c2, c3⟩ := zAnd c2
    have c1 := ze c1
    have c2 := zl c2
    have c3 := zl c3
    rw [z1_eq] at c2
    have e31 : Int.ofNat 31 = 31 := rfl
    rw [e31] at c3
    obtain ⟨m, hm⟩ : ∃ m : Nat, ly = (m : Int) := ⟨ly.toNat, by omega⟩
    have hb : b = Int32.ofNat m := by
      apply Int32.toInt_inj.mp
      rw [Int32.toInt_ofNat_of_lt (by omega)]
      omega
    subst hb
    have hm1 : 1 ≤ m := by omega
    have hm2 : m ≤ 31 := by omega
    have e1 : ((Int32.ofNat m).toUInt32 &&& Int32.toUInt32 31).toNat = m := by
      have : ∀ m : Nat, m ≤ 31 → ((Int32.ofNat m).toUInt32 &&& Int32.toUInt32 31).toNat = m := by decide
      exact this m hm2
    have e2 : (a.toUInt32 >>> ((Int32.ofNat m).toUInt32 &&& Int32.toUInt32 31)).toNat = a.toUInt32.toNat >>> m := by
      rw [UInt32.toNat_shiftRight, e1, Nat.mod_eq_of_lt (by omega)]
    have hlt : a.toUInt32.toNat < 2 ^ 32 := a.toUInt32.toNat_lt
    have hsh : a.toUInt32.toNat >>> m < 2 ^ (32 - m) := by
      rw [Nat.shiftRight_eq_div_pow, Nat.div_lt_iff_lt_mul (Nat.two_pow_pos m), ← Nat.pow_add]
      rwa [show 32 - m + m = 32 by omega]
    have hle : 2 ^ (32 - m) ≤ 2 ^ 31 := Nat.pow_le_pow_right (by omega) (by omega)
    have e3 : ((a.toUInt32 >>> ((Int32.ofNat m).toUInt32 &&& Int32.toUInt32 31)).toInt32).toInt = ((a.toUInt32.toNat >>> m : Nat) : Int) := by
      show (a.toUInt32 >>> ((Int32.ofNat m).toUInt32 &&& Int32.toUInt32 31)).toBitVec.toInt = _
      have h9 : (a.toUInt32 >>> ((Int32.ofNat m).toUInt32 &&& Int32.toUInt32 31)).toBitVec.toNat = a.toUInt32.toNat >>> m := e2
      rw [BitVec.toInt_eq_toNat_of_lt (by rw [h9]; omega), h9]
    rw [e3]
    refine znR (w := 0) (by rw [z0_eq]; omega) ?_
    show ((a.toUInt32.toNat >>> m : Nat) : Int) ≤ ((2 ^ (32 - ly.toNat) - 1 : Nat) : Int)
    rw [show ly.toNat = m by omega]
    omega
theorem zo_i2l (hx : zN ρ n 0 x a.toInt) (h : zI2l σ x k = true) : ∃ v, zN ρ n 2 v a.toInt64.toInt ∧ k v = true := by
  unfold zI2l at h
  rcases zCd h with ⟨-, h⟩ | ⟨-, h⟩
  · refine ⟨_, ?_, h⟩
    rw [Int32.toInt_toInt64]
    rcases hx with ⟨h1, h2, h3⟩ | ⟨h1, h2, h3⟩
    · exact Or.inl ⟨by show x.1 + 2 = 2; omega, h2, h3⟩
    · exact Or.inr ⟨by show x.1 + 2 = 3; omega, h2, h3⟩
  · cases h
theorem zo_l2i (hs : zSok ρ n σ) (hx : zN ρ n 2 x p.toInt) (h : zL2i σ x k = true) : ∃ v, zN ρ n 0 v p.toInt32.toInt ∧ k v = true := by
  unfold zL2i at h
  obtain ⟨lo, hi, h1, h2, h⟩ := zRg_s hs hx h
  rcases zCd h with ⟨c, h⟩ | ⟨-, h⟩
  · obtain ⟨c1, c2⟩ := zAnd c
    have c1 := zl c1
    have c2 := zl c2
    refine ⟨_, ?_, h⟩
    have e : p.toInt32.toInt = p.toInt := by
      rw [Int64.toInt_toInt32]
      exact zWr_id (w := 0) (Or.inl rfl) (by omega) (by omega)
    rw [e]
    rcases hx with ⟨h1, h2, h3⟩ | ⟨h1, h2, h3⟩
    · exact Or.inl ⟨by show x.1 - 2 = 0; omega, h2, h3⟩
    · exact Or.inr ⟨by show x.1 - 2 = 1; omega, h2, h3⟩
  · exact ⟨_, zAny_s _, h⟩
theorem zo_lsh (hs : zSok ρ n σ) (hx : zN ρ n 2 x p.toInt) (hy : zN ρ n 0 y b.toInt) (h : zLsh σ x y k = true) : ∃ v, zN ρ n 2 v (p <<< (b.toInt64 &&& 63)).toInt ∧ k v = true := by
  unfold zLsh at h
  obtain ⟨lx, ux, h1, h2, h⟩ := zRg_s hs hx h
  obtain ⟨ly, uy, h3, h4, h⟩ := zRg_s hs hy h
  rcases zCd h with ⟨c, h⟩ | ⟨-, h⟩
  · obtain ⟨d1, d2⟩ := zAnd c
    have := ze d1
    have := ze d2
    refine ⟨_, znC ?_, h⟩
    rw [show lx = p.toInt by omega, show ly = b.toInt by omega, Int32.ofInt_toInt, Int64.ofInt_toInt]
  · have := zI64_rg (p <<< (b.toInt64 &&& 63))
    exact ⟨_, znR (w := 2) this.1 this.2, h⟩
theorem zo_abs (hs : zSok ρ n σ) (hx : zN ρ n 0 x a.toInt) (h : zAbs σ x k = true) : ∃ v, zN ρ n 0 v (if 0 ≤ a then a else 0 - a).toInt ∧ k v = true := by
  unfold zAbs at h
  obtain ⟨lx, ux, h1, h2, h⟩ := zRg_s hs hx h
  have hz : (0 : Int32).toInt = 0 := rfl
  have hge : 0 ≤ a ↔ 0 ≤ a.toInt := by rw [Int32.le_iff_toInt_le, hz]
  rcases zCd h with ⟨c, h⟩ | ⟨c, h⟩
  · have c := zl c
    rw [z0_eq] at c
    rw [if_pos (hge.mpr (by omega))]
    exact ⟨_, hx, h⟩
  · rcases zCd h with ⟨c2, h⟩ | ⟨c2, h⟩
    · have c2 := zl c2
      rw [z0_eq] at c2
      have h3 := zSub_s (X := 0) (Or.inl rfl) hs (znC (c := z0) rfl) hx h
      have e : (if 0 ≤ a then a else 0 - a).toInt = zWr 0 (0 - a.toInt) := by
        split
        · rename_i q
          have q := hge.mp q
          have e0 : a.toInt = 0 := by omega
          rw [e0]
          rfl
        · rw [Int32.toInt_sub]
          rfl
      rw [e]
      exact h3
    · rcases zCd h with ⟨c3, h⟩ | ⟨-, h⟩
      · have c3 := zl c3
        have hm : zMn 0 = -2147483648 := rfl
        rw [hm, z1_eq] at c3
        refine ⟨_, ?_, h⟩
        have hM := le_zmax (x := -lx) (y := ux)
        split
        · rename_i q
          have q := hge.mp q
          exact znR (w := 0) (by rw [z0_eq]; omega) (by omega)
        · rename_i q
          have q : a.toInt < 0 := by
            have : ¬ 0 ≤ a.toInt := fun z => q (hge.mpr z)
            omega
          have e : (0 - a).toInt = -a.toInt := by
            rw [Int32.toInt_sub]
            have := zWr_id (w := 0) (z := 0 - a.toInt) (Or.inl rfl) (by show (-2147483648 : Int) ≤ _; omega) (by show _ ≤ (2147483647 : Int); omega)
            exact this.trans (by omega)
          rw [e]
          exact znR (w := 0) (by rw [z0_eq]; omega) (by omega)
      · exact ⟨_, zAny_s _, h⟩
theorem zo_fld (hs : zSok ρ n σ) (hx : zN ρ n 0 x a.toInt) (hy : zN ρ n 0 y b.toInt) (h : zFld σ x y k = true) : b ≠ 0 ∧ ∃ v, zN ρ n 0 v (if (a ^^^ b) < 0 then if a / b * b = a then a / b else a / b - 1 else a / b).toInt ∧ k v = true := by
  unfold zFld at h
  obtain ⟨lx, ux, ly, uy, h1, h2, h3, h4, h⟩ := zRg2_s hs hx hy h
  unfold zFldK at h
  have hz : (0 : Int32).toInt = 0 := rfl
  rcases zCd h with ⟨c, h⟩ | ⟨c, h⟩
  · have c := zl c
    rw [z1_eq] at c
    refine ⟨fun e => by rw [e] at h3; omega, ?_⟩
    have hb : 1 ≤ b.toInt := by omega
    have ha1 := a.le_toInt
    have ha2 := a.toInt_lt
    have hr := zd_rg (a := a.toInt) (b := b.toInt) hb
    have hd : (a / b).toInt = a.toInt.tdiv b.toInt := by
      rw [Int32.toInt_div]
      refine zWr_id (w := 0) (Or.inl rfl) ?_ ?_
      · show (-2147483648 : Int) ≤ _
        by_cases q : 0 ≤ a.toInt
        · have := hr.1 q; omega
        · have := hr.2 (by omega); omega
      · show _ ≤ (2147483647 : Int)
        by_cases q : 0 ≤ a.toInt
        · have := hr.1 q; omega
        · have := hr.2 (by omega); omega
    have hmod := Int.tmod_def a.toInt b.toInt
    -- the sign
    have hsg : (a ^^^ b) < 0 ↔ a.toInt < 0 := by
      have hbm : b.toBitVec.msb = false := by
        rw [BitVec.msb_eq_toInt]
        have : b.toBitVec.toInt = b.toInt := rfl
        simp only [this, decide_eq_false_iff_not]
        omega
      rw [Int32.lt_iff_toInt_lt, hz]
      have e1 : (a ^^^ b).toInt = (a.toBitVec ^^^ b.toBitVec).toInt := by rw [← Int32.toInt_toBitVec, Int32.toBitVec_xor]
      rw [e1]
      have m1 := BitVec.msb_eq_toInt (x := a.toBitVec ^^^ b.toBitVec)
      have m2 := BitVec.msb_eq_toInt (x := a.toBitVec)
      rw [BitVec.msb_xor, hbm, Bool.xor_false] at m1
      rw [m1] at m2
      have e3 : a.toBitVec.toInt = a.toInt := rfl
      rw [e3] at m2
      exact decide_eq_decide.mp m2
    have hmul : a / b * b = a ↔ a.toInt.tmod b.toInt = 0 := by
      constructor
      · intro e
        have e2 : a - a / b * b = 0 := by rw [e]; exact Int32.sub_self a
        have e3 := zrem_eq a b hb
        rw [e2] at e3
        rw [← e3]
        rfl
      · intro e
        have e3 := zrem_eq a b hb
        rw [e] at e3
        have e4 : a - a / b * b = 0 := Int32.toInt_inj.mp (by rw [e3]; rfl)
        have e5 := Int32.sub_add_cancel a (a / b * b)
        rw [e4, Int32.zero_add] at e5
        exact e5
    have hval : (if (a ^^^ b) < 0 then if a / b * b = a then a / b else a / b - 1 else a / b).toInt = a.toInt / b.toInt := by
      by_cases q : a.toInt < 0
      · rw [if_pos (hsg.mpr q)]
        have hneg : a.toInt.tdiv b.toInt = -((-a.toInt) / b.toInt) := by
          have := Int.neg_tdiv (-a.toInt) b.toInt
          rw [Int.neg_neg] at this
          rw [this, Int.tdiv_eq_ediv_of_nonneg (by omega)]
        have hA := Int.ediv_mul_le (-a.toInt) (b := b.toInt) (by omega)
        have hB := Int.lt_ediv_add_one_mul_self (-a.toInt) (show 0 < b.toInt by omega)
        have hC := Int.ediv_mul_le a.toInt (b := b.toInt) (by omega)
        have hD := Int.lt_ediv_add_one_mul_self a.toInt (show 0 < b.toInt by omega)
        by_cases q2 : a.toInt.tmod b.toInt = 0
        · rw [if_pos (hmul.mpr q2), hd]
          have h5 : b.toInt * a.toInt.tdiv b.toInt = a.toInt := by omega
          have h6 : a.toInt / b.toInt = a.toInt.tdiv b.toInt := by
            conv => lhs; rw [← h5]
            exact Int.mul_ediv_cancel_left _ (by omega)
          exact h6.symm
        · rw [if_neg (fun z => q2 (hmul.mp z)), Int32.toInt_sub, hd]
          have hlt := Int.tmod_lt_of_pos a.toInt (show 0 < b.toInt by omega)
          have hgt := Int.lt_tmod_of_pos a.toInt (show 0 < b.toInt by omega)
          have h7 := hr.2 (by omega)
          have hneg2 : a.toInt.tmod b.toInt < 0 := by
            have := Int.neg_tmod (-a.toInt) b.toInt
            rw [Int.neg_neg] at this
            have := Int.tmod_nonneg (a := -a.toInt) b.toInt (by omega)
            omega
          have h8 : a.toInt / b.toInt = a.toInt.tdiv b.toInt - 1 := by
            have e1 : a.toInt = b.toInt * (a.toInt.tdiv b.toInt - 1) + (a.toInt.tmod b.toInt + b.toInt) := by
              rw [Int.mul_sub]
              omega
            rw [e1, Int.mul_add_ediv_left _ _ (by omega), Int.ediv_eq_zero_of_lt (by omega) (by omega), ← e1]
            omega
          rw [h8]
          have e1 : (1 : Int32).toInt = 1 := rfl
          rw [e1]
          refine zWr_id (w := 0) (Or.inl rfl) ?_ ?_
          · show (-2147483648 : Int) ≤ _
            have hne : a.toInt.tdiv b.toInt ≠ a.toInt ∨ b.toInt = 1 := by
              by_cases h1b : b.toInt = 1
              · exact Or.inr h1b
              · refine Or.inl (fun e => ?_)
                rw [e] at hmod
                have h9 : 2 * a.toInt ≥ b.toInt * a.toInt := by
                  have := Int.mul_le_mul_of_nonpos_right (show (2 : Int) ≤ b.toInt by omega) (show a.toInt ≤ 0 by omega)
                  omega
                omega
            rcases hne with hne | hb1
            · omega
            · rw [hb1] at hneg2
              have : a.toInt.tmod 1 = 0 := by rw [Int.tmod_def, Int.tdiv_one]; omega
              omega
          · show _ ≤ (2147483647 : Int)
            omega
      · rw [if_neg (fun z => q (hsg.mp z)), hd, Int.tdiv_eq_ediv_of_nonneg (by omega)]
    rw [hval]
    rcases zCd h with ⟨c2, h⟩ | ⟨-, h⟩
    · obtain ⟨d1, d2⟩ := zAnd c2
      have := ze d1
      have := ze d2
      exact ⟨_, znC (by rw [show a.toInt = lx by omega, show b.toInt = ly by omega]), h⟩
    · refine ⟨_, znR (w := 0) ?_ ?_, h⟩
      · have hm := zmin_le (x := lx) (y := z0)
        rw [z0_eq] at hm ⊢
        by_cases q : 0 ≤ a.toInt
        · have := Int.ediv_nonneg q (show 0 ≤ b.toInt by omega)
          omega
        · have hle : a.toInt ≤ a.toInt / b.toInt := by
            rw [Int.le_ediv_iff_mul_le (by omega)]
            have := Int.mul_le_mul_of_nonpos_left (show a.toInt ≤ 0 by omega) hb
            omega
          omega
      · have hM := le_zmax (x := ux) (y := z0)
        rw [z0_eq] at hM ⊢
        by_cases q : 0 ≤ a.toInt
        · have : a.toInt / b.toInt ≤ a.toInt := Int.ediv_le_self _ q
          omega
        · have : a.toInt / b.toInt < 0 := Int.ediv_neg_of_neg_of_pos (by omega) (by omega)
          omega
  · rcases zCd h with ⟨c2, h⟩ | ⟨-, h⟩
    · have c2 := zl c2
      rw [show Int.negSucc 0 = -1 from rfl] at c2
      exact ⟨fun e => by rw [e] at h4; omega, _, zAny_s _, h⟩
    · cases h
end ZOP
section ZMM
variable {ρ : Nat → Int} {n w : Nat} {σ : zS} {x y : zV} {X Y : Int} {k : zV → Bool}
theorem zMm_s {up : Bool} {Z : Int} (hs : zSok ρ n σ) (hx : zN ρ n w x X) (hy : zN ρ n w y Y) (hZ : (X ≤ Y → Z = if up then Y else X) ∧ (Y ≤ X → Z = if up then X else Y)) (h : zMm w up σ x y k = true) : ∃ v, zN ρ n w v Z ∧ k v = true := by
  unfold zMm at h
  obtain ⟨lx, ux, ly, uy, h1, h2, h3, h4, h⟩ := zRg2_s hs hx hy h
  refine ⟨_, ?_, h⟩
  unfold zMmV
  cases c1 : zle ux ly
  · cases c2 : zle uy lx
    · cases up
      · have hm := zmin_le (x := lx) (y := ly)
        have hm2 : zmin ux uy ≤ ux ∧ zmin ux uy ≤ uy := zmin_le
        show zN ρ n w (w + 1, zmin lx ly, zmin ux uy, 0) Z
        by_cases q : X ≤ Y
        · have := hZ.1 q
          simp only [Bool.false_eq_true, if_false] at this
          exact znR (by omega) (le_zmin (by omega) (by omega))
        · have := hZ.2 (by omega)
          simp only [Bool.false_eq_true, if_false] at this
          exact znR (by omega) (le_zmin (by omega) (by omega))
      · have hm := le_zmax (x := ux) (y := uy)
        show zN ρ n w (w + 1, zmax lx ly, zmax ux uy, 0) Z
        by_cases q : X ≤ Y
        · have := hZ.1 q
          simp only [if_true] at this
          exact znR (zmax_le (by omega) (by omega)) (by omega)
        · have := hZ.2 (by omega)
          simp only [if_true] at this
          exact znR (zmax_le (by omega) (by omega)) (by omega)
    · have := zl c2
      have := hZ.2 (by omega)
      cases up
      · simp only [Bool.false_eq_true, if_false] at this
        rw [this]
        exact hy
      · simp only [if_true] at this
        rw [this]
        exact hx
  · have := zl c1
    have := hZ.1 (by omega)
    cases up
    · simp only [Bool.false_eq_true, if_false] at this
      rw [this]
      exact hx
    · simp only [if_true] at this
      rw [this]
      exact hy
end ZMM
/-! what a run of the abstract machine comes to; what the interpreter's states mean -/
def zBE (X : aX) (cal : Nat → List Value → aH → Option (Option Value × aH)) (rt : Nat) (C : List (List aI)) (f b : Nat) (is : List aI) (ls st : List Value) (h : aH) : Option (Option Value × aH) := match aB X cal rt b is ls st h with
  | some (.inl q) => aE X cal rt C f q.1 q.2.1 q.2.2.1 q.2.2.2
  | some (.inr r) => some r
  | none => none
/-- the rest of a block comes to an end with Q -/
def zW (X : aX) (d y b : Nat) (is : List aI) (ls st : List Value) (h : aH) (Q : Option Value → aH → Prop) : Prop :=
  ∃ rv h', Q rv h' ∧ ∃ F0, ∀ F f, F0 ≤ F → F0 ≤ f → zBE X (aM X F d) (aRT y) (aMC y) f b is ls st h = some (rv, h')
/-- a method comes to an end with Q -/
def zRn (X : aX) (d y : Nat) (as : List Value) (h : aH) (Q : Option Value → aH → Prop) : Prop := ∃ rv h', Q rv h' ∧ ∃ F0, ∀ F, F0 ≤ F → aM X F d y as h = some (rv, h')
section ZW
variable {X : aX} {d y b : Nat} {i : aI} {is : List aI} {ls st ls' st' : List Value} {h h' : aH} {Q Q' : Option Value → aH → Prop}
theorem zW.mono (k : zW X d y b is ls st h Q) (hq : ∀ rv h', Q rv h' → Q' rv h') : zW X d y b is ls st h Q' := by
  obtain ⟨rv, h', q, e⟩ := k
  exact ⟨rv, h', hq _ _ q, e⟩
theorem zRn.mono {as : List Value} (k : zRn X d y as h Q) (hq : ∀ rv h', Q rv h' → Q' rv h') : zRn X d y as h Q' := by
  obtain ⟨rv, h', q, e⟩ := k
  exact ⟨rv, h', hq _ _ q, e⟩
theorem zW_step (hk : aKd i ≠ 4) (hS : ∀ cal, aS X cal i ls st h = some (ls', st', h')) (k : zW X d y b is ls' st' h' Q) : zW X d y b (i :: is) ls st h Q := by
  obtain ⟨rv, hF, q, F0, e⟩ := k
  refine ⟨rv, hF, q, F0, fun F f h1 h2 => ?_⟩
  have := e F f h1 h2
  unfold zBE at this ⊢
  have e2 : aB X (aM X F d) (aRT y) b (i :: is) ls st h = aB X (aM X F d) (aRT y) b is ls' st' h' := by
    conv => lhs; unfold aB
    rw [if_neg hk, hS]
  rw [e2]
  exact this
theorem zW_to {b' : Nat} {l : List aI} {t ls1 : List Value} (hB : ∀ cal, aB X cal (aRT y) b is ls st h = some (.inl (b', ls1, t, h'))) (hb : (aMC y)[b']? = some l) (k : zW X d y b' l ls1 t h' Q) : zW X d y b is ls st h Q := by
  obtain ⟨rv, hF, q, F0, e⟩ := k
  refine ⟨rv, hF, q, F0 + 1, fun F f h1 h2 => ?_⟩
  obtain ⟨f, rfl⟩ : ∃ g, f = g + 1 := ⟨f - 1, by omega⟩
  have := e F f (by omega) (by omega)
  unfold zBE at this ⊢
  rw [hB]
  show aE X (aM X F d) (aRT y) (aMC y) (f + 1) b' ls1 t h' = _
  unfold aE
  rw [hb]
  dsimp only
  split at this
  · rename_i q1 hq1
    rw [hq1]
    exact this
  · rename_i r hr
    rw [hr]
    exact this
  · cases this
theorem zW_jump {b' : Nat} {l : List aI} {t : List Value} (hk : aKd i = 4) (hT : aT (aRT y) b i ls st h = some (.inl (b', ls, t, h))) (hb : (aMC y)[b']? = some l) (k : zW X d y b' l ls t h Q) : zW X d y b (i :: is) ls st h Q :=
  zW_to (fun cal => by unfold aB; rw [if_pos hk, hT]) hb k
theorem zW_fall {l : List aI} (hb : (aMC y)[b + 1]? = some l) (k : zW X d y (b + 1) l ls st h Q) : zW X d y b [] ls st h Q :=
  zW_to (fun _ => rfl) hb k
theorem zW_ret {rv : Option Value} (hk : aKd i = 4) (hT : aT (aRT y) b i ls st h = some (.inr (rv, h))) (q : Q rv h) : zW X d y b (i :: is) ls st h Q :=
  ⟨rv, h, q, 0, fun F f _ _ => by
    unfold zBE aB
    rw [if_pos hk, hT]⟩
theorem zRn_of {as : List Value} {l : List aI} (hlen : (aFl as).length ≤ aML y ∧ aD ∉ as) (hb : (aMC y)[0]? = some l) (k : zW X d y 0 l (aEn as (aML y)) [] h Q) : zRn X (d + 1) y as h Q := by
  obtain ⟨rv, hF, q, F0, e⟩ := k
  refine ⟨rv, hF, q, F0 + 1, fun F h1 => ?_⟩
  obtain ⟨f, rfl⟩ : ∃ g, F = g + 1 := ⟨F - 1, by omega⟩
  have := e (f + 1) f (by omega) (by omega)
  unfold aM
  rw [if_pos hlen]
  unfold aE
  rw [hb]
  dsimp only
  unfold zBE at this
  split at this
  · rename_i q1 hq1
    rw [hq1]
    exact this
  · rename_i r hr
    rw [hr]
    exact this
  · cases this
theorem zW_call {y' : Nat} {as t : List Value} (hk : aKd i ≠ 4) (hS : ∀ cal, aS X cal i ls st h = (match cal y' as h with
    | some (rv, h') => if h'.1 = h.1 ∨ (ls ++ t).all (aOkv h.1) = true then some (ls, rv.toList ++ t, h') else none
    | none => none)) (r : zRn X d y' as h (fun rv h' => (h'.1 = h.1 ∨ (ls ++ t).all (aOkv h.1) = true) ∧ zW X d y b is ls (rv.toList ++ t) h' Q)) : zW X d y b (i :: is) ls st h Q := by
  obtain ⟨rv, h1, ⟨ho, rv2, h2, q, F1, e1⟩, F0, e0⟩ := r
  refine ⟨rv2, h2, q, F0 + F1, fun F f l1 l2 => ?_⟩
  have a := e0 F (by omega)
  have c := e1 F f (by omega) (by omega)
  unfold zBE at c ⊢
  have e2 : aB X (aM X F d) (aRT y) b (i :: is) ls st h = aB X (aM X F d) (aRT y) b is ls (rv.toList ++ t) h1 := by
    conv => lhs; unfold aB
    rw [if_neg hk, hS, a]
    dsimp only
    rw [if_pos ho]
  rw [e2]
  exact c
end ZW
/-! what states mean -/
/-- the cells that a cell of the interpreter stands for -/
def zGc (P : zP) (s r : Nat) : Prop := (s < 700 ∧ r = s) ∨ (700 ≤ s ∧ s < 1000 ∧ r ∈ P.ps s) ∨ (1000 ≤ s ∧ r = s)
def zG (P : zP) (ρ : Nat → Int) (n : Nat) (v : zV) (u : Value) : Prop :=
  (v.1 ≤ 1 ∧ ∃ x : Int32, u = .int x ∧ zN ρ n 0 v x.toInt) ∨ ((v.1 = 2 ∨ v.1 = 3) ∧ ∃ x : Int64, u = .long x ∧ zN ρ n 2 v x.toInt) ∨ (v.1 = 4 ∧ ∃ r : Nat, u = .ref r ∧ zGc P v.2.2.2 r) ∨ (v.1 = 6 ∧ u = aD) ∨ v.1 = 9
def zGl (P : zP) (ρ : Nat → Int) (n : Nat) : List zV → List Value → Prop
  | [], [] => True
  | v :: r, u :: q => zG P ρ n v u ∧ zGl P ρ n r q
  | _, _ => False
/-- the number at a place -/
def zM (h : aH) (p i : Nat) : Int32 := h.2.2.2 (p / 128) (if p % 128 = 127 then i else p % 128)
/-- a place of a cell that is there -/
def zPl (h : aH) (p : Nat) : Prop := p / 128 < h.1 ∧ p < 89600 ∧ (if p % 128 = 127 then 100 ≤ (h.2.2.1 (p / 128)).1 else (h.2.2.1 (p / 128)).1 < 100)
def zGe (X : aX) (ρ : Nat → Int) (n : Nat) (h : aH) (e : zE) : Prop :=
  if e.1 = 11520001 then 0 < n ∧ ∀ i, e.2.1 ≤ i → i < e.2.2.1 → zN ρ n 0 e.2.2.2 (X.2 (ρ 0 + i).toNat).toInt
  else if e.1 = 11520002 then 0 < n ∧ (e.2.2.2.1 = 0 → e.2.2.2.2.2.1 = 0 → ρ 0 + e.2.2.2.2.1 ≤ X.1)
  else zPl h e.1 ∧ ∀ i, e.2.1 ≤ i → i < e.2.2.1 → (e.1 % 128 ≠ 127 → i = 0) → zN ρ n 0 e.2.2.2 (zM h e.1 i).toInt
/-- a cell beside what the interpreter has of it -/
def zGk (P : zP) (h : aH) (b : Nat) (c : zC) : Prop := b < h.1 ∧ b < 700 ∧ (h.2.2.1 b).1 = c.1 ∧ (100 ≤ c.1 → (h.2.2.1 b).2.1 = c.2.1) ∧ (∀ j, zAt c.2.2.1 j < 99999 → ∃ r, (h.2.2.1 b).2.2 j = some r ∧ zGc P (zAt c.2.2.1 j) r) ∧ (700 ≤ c.2.2.2 → ∀ j, j < c.2.1 → ∃ r, (h.2.2.1 b).2.2 j = some r ∧ zGc P c.2.2.2 r)
def zGK (P : zP) (K : zK) (h : aH) : Prop := h.1 = K.1 ∧ h.2.1 = K.2.1 ∧ ∀ s b, zGc P s b → (zCe P K s).1 < 900 → zGk P h b (zCe P K s)
/-- places keep to their bounds -/
def zGI (P : zP) (h : aH) : Prop := ∀ p i, zPl h p → (p % 128 = 127 → i < (h.2.2.1 (p / 128)).2.1) → (P.zI p).1 ≤ (zM h p i).toInt ∧ (zM h p i).toInt ≤ (P.zI p).2
/-- nothing but what m names has changed -/
def zOff (m : Nat) (k : Nat → aK) (M0 M : Nat → Nat → Int32) : Prop := ∀ a, ((k a).1 < 100 → ∀ f, f < 127 → zBit m (a * 128 + f) = false → M a f = M0 a f) ∧ (100 ≤ (k a).1 → zBit m (a * 128 + 127) = false → M a = M0 a)
/-- what the tables must keep to -/
def zVal (P : zP) : Prop := (∀ y, P.bk y = (aMC y).map zEnB) ∧ (∀ s b f, 700 ≤ s → s < 1000 → b ∈ P.ps s → f < 128 → b < 700 ∧ (P.zI (s * 128 + f)).1 ≤ (P.zI (b * 128 + f)).1 ∧ (P.zI (b * 128 + f)).2 ≤ (P.zI (s * 128 + f)).2) ∧ ((P.zI 11520001).1 ≤ zMn 0 ∧ zMx 0 ≤ (P.zI 11520001).2) ∧ (∀ p, zBit P.wm p = true → zBit P.md p = true) ∧ (P.al = true → (∀ s, P.ps s = []) ∧ ∀ p, (P.zI p).1 ≤ zMn 0 ∧ zMx 0 ≤ (P.zI p).2) ∧ (∀ s b, b ∈ P.ps s → 700 ≤ s ∧ s < 1000)
/-- a state: symbols, cells, what is known, bounds; where no cells come, what else holds and what has not changed; symbols that stay -/
def zGa (X : aX) (P : zP) (G : aH → Prop) (pS : Nat) (h0 : aH) (ρ0 ρ : Nat → Int) (n : Nat) (σ : zS) (K : zK) (E : List zE) (h : aH) : Prop :=
  zSok ρ n σ ∧ zGK P K h ∧ (∀ e ∈ E, zGe X ρ n h e) ∧ zGI P h ∧ (P.al = false → G h ∧ zOff P.md h.2.2.1 h0.2.2.2 h.2.2.2 ∧ h.1 = h0.1 ∧ h.2.1 = h0.2.1 ∧ h.2.2.1 = h0.2.2.1) ∧ (∀ i, i < pS → ρ i = ρ0 i) ∧ pS ≤ n
section ZST
variable {X : aX} {P : zP} {G : aH → Prop} {pS : Nat} {h0 h h' : aH} {ρ0 ρ ρ' : Nat → Int} {n n' : Nat} {σ : zS} {K : zK} {E : List zE} {v : zV} {u : Value} {vs : List zV} {us : List Value}
theorem zG.mono (k : zG P ρ n v u) (hn : n ≤ n') (hr : ∀ i, i < n → ρ' i = ρ i) : zG P ρ' n' v u := by
  rcases k with ⟨h1, x, h2, h3⟩ | ⟨h1, x, h2, h3⟩ | k
  · exact Or.inl ⟨h1, x, h2, h3.mono hn hr⟩
  · exact Or.inr (Or.inl ⟨h1, x, h2, h3.mono hn hr⟩)
  · exact Or.inr (Or.inr k)
theorem zGl.mono (k : zGl P ρ n vs us) (hn : n ≤ n') (hr : ∀ i, i < n → ρ' i = ρ i) : zGl P ρ' n' vs us := by
  induction vs generalizing us with
  | nil => cases us <;> exact k
  | cons v r ih =>
    cases us with
    | nil => exact k
    | cons u q => exact ⟨k.1.mono hn hr, ih k.2⟩
theorem zGe.mono {e : zE} (k : zGe X ρ n h e) (hn : n ≤ n') (hr : ∀ i, i < n → ρ' i = ρ i) : zGe X ρ' n' h e := by
  unfold zGe at k ⊢
  split at k
  · rename_i q
    rw [if_pos q]
    refine ⟨by omega, fun i h1 h2 => ?_⟩
    rw [hr 0 k.1]
    exact (k.2 i h1 h2).mono hn hr
  · rename_i q
    rw [if_neg q]
    split at k
    · rename_i q2
      rw [if_pos q2]
      refine ⟨by omega, fun h1 h2 => ?_⟩
      rw [hr 0 k.1]
      exact k.2 h1 h2
    · rename_i q2
      rw [if_neg q2]
      exact ⟨k.1, fun i h1 h2 h3 => (k.2 i h1 h2 h3).mono hn hr⟩
theorem zGl_len (k : zGl P ρ n vs us) : vs.length = us.length := by
  induction vs generalizing us with
  | nil =>
    cases us with
    | nil => rfl
    | cons u q => exact k.elim
  | cons v r ih =>
    cases us with
    | nil => exact k.elim
    | cons u q => rw [List.length_cons, List.length_cons, ih k.2]
theorem zGl_cons {r : List zV} (k : zGl P ρ n (v :: r) us) : ∃ u q, us = u :: q ∧ zG P ρ n v u ∧ zGl P ρ n r q := by
  cases us with
  | nil => exact k.elim
  | cons u q => exact ⟨u, q, rfl, k.1, k.2⟩
theorem zGl_nil (k : zGl P ρ n [] us) : us = [] := by
  cases us with
  | nil => rfl
  | cons u q => exact k.elim
theorem zGl_at {j : Nat} {k : zV → Bool} (hl : zGl P ρ n vs us) (h : zNth vs j k = true) : ∃ v u, us[j]? = some u ∧ zG P ρ n v u ∧ k v = true ∧ j < us.length := by
  induction vs generalizing us j with
  | nil => cases h
  | cons v r ih =>
    obtain ⟨u, q, rfl, h1, h2⟩ := zGl_cons hl
    unfold zNth at h
    rcases zCd h with ⟨c, h⟩ | ⟨c, h⟩
    · rw [zbe c]
      exact ⟨v, u, rfl, h1, h, by rw [List.length_cons]; omega⟩
    · have c := zbn c
      obtain ⟨v', u', h3, h4, h5, h6⟩ := ih h2 h
      obtain ⟨m, rfl⟩ : ∃ m, j = m + 1 := ⟨j - 1, by omega⟩
      exact ⟨v', u', by rw [List.getElem?_cons_succ]; exact h3, h4, h5, by rw [List.length_cons]; omega⟩
theorem zGl_set {j : Nat} (hl : zGl P ρ n vs us) (hv : zG P ρ n v u) : zGl P ρ n (vs.set j v) (us.set j u) := by
  induction vs generalizing us j with
  | nil =>
    rw [zGl_nil hl]
    exact trivial
  | cons a r ih =>
    obtain ⟨w, q, rfl, h1, h2⟩ := zGl_cons hl
    cases j with
    | zero => exact ⟨hv, h2⟩
    | succ j => exact ⟨h1, ih h2⟩
theorem zGl_app {ws : List zV} {xs : List Value} (h1 : zGl P ρ n vs us) (h2 : zGl P ρ n ws xs) : zGl P ρ n (vs ++ ws) (us ++ xs) := by
  induction vs generalizing us with
  | nil =>
    rw [zGl_nil h1]
    exact h2
  | cons a r ih =>
    obtain ⟨w, q, rfl, k1, k2⟩ := zGl_cons h1
    exact ⟨k1, ih k2⟩
theorem zGl_rev (h1 : zGl P ρ n vs us) : zGl P ρ n vs.reverse us.reverse := by
  induction vs generalizing us with
  | nil =>
    rw [zGl_nil h1]
    exact trivial
  | cons a r ih =>
    obtain ⟨w, q, rfl, k1, k2⟩ := zGl_cons h1
    rw [List.reverse_cons, List.reverse_cons]
    exact zGl_app (ih k2) ⟨k1, trivial⟩
theorem zGl_take {m : Nat} (h1 : zGl P ρ n vs us) : zGl P ρ n (vs.take m) (us.take m) := by
  induction vs generalizing us m with
  | nil =>
    rw [zGl_nil h1]
    cases m <;> exact trivial
  | cons a r ih =>
    obtain ⟨w, q, rfl, k1, k2⟩ := zGl_cons h1
    cases m with
    | zero => exact trivial
    | succ m => exact ⟨k1, ih k2⟩
theorem zGl_drop {m : Nat} (h1 : zGl P ρ n vs us) : zGl P ρ n (vs.drop m) (us.drop m) := by
  induction vs generalizing us m with
  | nil =>
    rw [zGl_nil h1]
    cases m <;> exact trivial
  | cons a r ih =>
    obtain ⟨w, q, rfl, k1, k2⟩ := zGl_cons h1
    cases m with
    | zero => exact ⟨k1, k2⟩
    | succ m => exact ih k2
theorem zG_int (k : zG P ρ n v u) (ht : v.1 = 0 ∨ v.1 = 1) : ∃ x : Int32, u = .int x ∧ zN ρ n 0 v x.toInt := by
  rcases k with ⟨-, k⟩ | ⟨h1, -⟩ | ⟨h1, -⟩ | ⟨h1, -⟩ | h1
  · exact k
  · omega
  · omega
  · omega
  · omega
theorem zG_long (k : zG P ρ n v u) (ht : v.1 = 2 ∨ v.1 = 3) : ∃ x : Int64, u = .long x ∧ zN ρ n 2 v x.toInt := by
  rcases k with ⟨h1, -⟩ | ⟨-, k⟩ | ⟨h1, -⟩ | ⟨h1, -⟩ | h1
  · omega
  · exact k
  · omega
  · omega
  · omega
theorem zG_ref (k : zG P ρ n v u) (ht : v.1 = 4) : ∃ r : Nat, u = .ref r ∧ zGc P v.2.2.2 r := by
  rcases k with ⟨h1, -⟩ | ⟨h1, -⟩ | ⟨-, k⟩ | ⟨h1, -⟩ | h1
  · omega
  · omega
  · exact k
  · omega
  · omega
theorem zGi {x : Int32} (hn : zN ρ n 0 v x.toInt) : zG P ρ n v (.int x) := Or.inl ⟨by rcases zTag hn with e | e <;> omega, x, rfl, hn⟩
theorem zGj {x : Int64} (hn : zN ρ n 2 v x.toInt) : zG P ρ n v (.long x) := Or.inr (Or.inl ⟨by rcases zTag hn with e | e <;> omega, x, rfl, hn⟩)
theorem zGr {s r : Nat} (hc : zGc P s r) : zG P ρ n (zcell s) (.ref r) := Or.inr (Or.inr (Or.inl ⟨rfl, r, rfl, hc⟩))
theorem zGd {a b : Int} {s : Nat} : zG P ρ n (6, a, b, s) aD := Or.inr (Or.inr (Or.inr (Or.inl ⟨rfl, rfl⟩)))
theorem zRg_tag {w : Nat} {k : Int → Int → Bool} (h : zRg w σ v k = true) : (v.1 = w ∨ v.1 = w + 1) ∧ ∃ lo hi, k lo hi = true := by
  unfold zRg at h
  cases c1 : Nat.beq v.1 w
  · cases c2 : Nat.beq v.1 (w + 1)
    · rw [c1, c2] at h
      cases h
    · rw [c1, c2] at h
      exact ⟨Or.inr (zbe c2), _, _, h⟩
  · rw [c1] at h
    refine ⟨Or.inl (zbe c1), ?_⟩
    have h : zRgA σ v k = true := h
    have sy : ∀ (σ : zS) (s : Nat) (k : Int → Int → Bool), zSy σ s k = true → ∃ lo hi, k lo hi = true := by
      intro σ
      induction σ with
      | nil => intro s k h; cases h
      | cons e r ih =>
        intro s k h
        unfold zSy at h
        rcases zCd h with ⟨-, h⟩ | ⟨-, h⟩
        · exact ⟨_, _, h⟩
        · exact ih s k h
    unfold zRgA at h
    rcases zCd h with ⟨-, h⟩ | ⟨-, h⟩
    · exact ⟨_, _, h⟩
    · rcases zCd h with ⟨-, h⟩ | ⟨-, h⟩
      · obtain ⟨_, _, h⟩ := sy _ _ _ h
        exact ⟨_, _, h⟩
      · obtain ⟨_, _, h⟩ := sy _ _ _ h
        unfold zAfR at h
        rcases zCd h with ⟨-, h⟩ | ⟨-, h⟩
        · exact ⟨_, _, h⟩
        · exact ⟨_, _, h⟩
theorem zRg2_tag {w : Nat} {x y : zV} {k : Int → Int → Int → Int → Bool} (h : zRg2 w σ x y k = true) : (x.1 = w ∨ x.1 = w + 1) ∧ (y.1 = w ∨ y.1 = w + 1) := by
  unfold zRg2 at h
  obtain ⟨h1, _, _, h⟩ := zRg_tag h
  exact ⟨h1, (zRg_tag h).1⟩
theorem zPr_tag {w : Nat} {x y : zV} {b : Bool} {k : Int → Int → Int → Int → Bool} (h : (bif zPar w x y then b else zRg2 w σ x y k) = true) : (x.1 = w ∨ x.1 = w + 1) ∧ (y.1 = w ∨ y.1 = w + 1) := by
  rcases zCd h with ⟨c, -⟩ | ⟨-, h⟩
  · unfold zPar zSame at c
    obtain ⟨c, -⟩ := zAnd c
    obtain ⟨c1, c⟩ := zAnd c
    obtain ⟨c2, -⟩ := zAnd c
    exact ⟨Or.inl (zbe c1), Or.inl (zbe c2)⟩
  · exact zRg2_tag h
theorem zG_rgi {k : Int → Int → Bool} (hu : zG P ρ n v u) (h : zRg 0 σ v k = true) : ∃ x : Int32, u = .int x ∧ zN ρ n 0 v x.toInt := zG_int hu (zRg_tag h).1
theorem zG_rgl {k : Int → Int → Bool} (hu : zG P ρ n v u) (h : zRg 2 σ v k = true) : ∃ x : Int64, u = .long x ∧ zN ρ n 2 v x.toInt := zG_long hu (zRg_tag h).1
theorem zGa.sym {σ' : zS} (k : zGa X P G pS h0 ρ0 ρ n σ K E h) (hs : zSok ρ n σ') : zGa X P G pS h0 ρ0 ρ n σ' K E h := ⟨hs, k.2⟩
/-- a symbol more -/
theorem zGa.new {z : Int} {lo hi : Int} (k : zGa X P G pS h0 ρ0 ρ n σ K E h) (h1 : lo ≤ z) (h2 : z ≤ hi) : zGa X P G pS h0 ρ0 (fun i => if i = n then z else ρ i) (n + 1) ((n, lo, hi) :: σ) K E h := by
  obtain ⟨k1, k2, k3, k4, k5, k6, k7⟩ := k
  have hr : ∀ i, i < n → (fun i => if i = n then z else ρ i) i = ρ i := fun i hi => if_neg (by omega)
  refine ⟨fun e he => ?_, k2, fun e he => (k3 e he).mono (Nat.le_succ n) hr, k4, k5, fun i hi => ?_, by omega⟩
  · rcases List.mem_cons.mp he with rfl | he
    · refine ⟨Nat.lt_succ_self n, ?_, ?_⟩
      · dsimp only
        rw [if_pos rfl]
        exact h1
      · dsimp only
        rw [if_pos rfl]
        exact h2
    · exact (k1.mono (Nat.le_succ n) hr) e he
  · rw [hr i (by omega)]
    exact k6 i hi
theorem zN_new {z : Int} {w : Nat} : zN (fun i => if i = n then z else ρ i) (n + 1) w (w, z0, z1, n) z := Or.inl ⟨rfl, Or.inr (Nat.lt_succ_self n), by show z = 0 + 1 * (if n = n then z else ρ n); rw [if_pos rfl]; omega⟩
/-- a value gets a symbol -/
theorem zMa_s {k : Nat → zS → zV → Bool} (hg : zGa X P G pS h0 ρ0 ρ n σ K E h) (hu : zG P ρ n v u) (hk : zMa n σ v k = true) : ∃ n' σ' ρ' v', k n' σ' v' = true ∧ n ≤ n' ∧ (∀ i, i < n → ρ' i = ρ i) ∧ zGa X P G pS h0 ρ0 ρ' n' σ' K E h ∧ zG P ρ' n' v' u ∧ (v.1 ≤ 3 → v'.1 / 2 = v.1 / 2) ∧ (3 < v.1 → v' = v) := by
  unfold zMa at hk
  rcases zCd hk with ⟨c, hk⟩ | ⟨c, hk⟩
  · rcases zOr c with c | c
    · have c := zbe c
      obtain ⟨x, rfl, hx⟩ := zG_int hu (Or.inr c)
      rcases hx with ⟨e, -⟩ | ⟨-, h1, h2⟩
      · omega
      · refine ⟨_, _, fun i => if i = n then x.toInt else ρ i, _, hk, Nat.le_succ n, fun i hi => if_neg (by omega), hg.new h1 h2, ?_, ?_, ?_⟩
        · rw [show v.1 - 1 = 0 by omega]
          exact zGi zN_new
        · intro _
          show (v.1 - 1) / 2 = v.1 / 2
          omega
        · intro q
          omega
    · have c := zbe c
      obtain ⟨x, rfl, hx⟩ := zG_long hu (Or.inr c)
      rcases hx with ⟨e, -⟩ | ⟨-, h1, h2⟩
      · omega
      · refine ⟨_, _, fun i => if i = n then x.toInt else ρ i, _, hk, Nat.le_succ n, fun i hi => if_neg (by omega), hg.new h1 h2, ?_, ?_, ?_⟩
        · rw [show v.1 - 1 = 2 by omega]
          exact zGj zN_new
        · intro _
          show (v.1 - 1) / 2 = v.1 / 2
          omega
        · intro q
          omega
  · exact ⟨n, σ, ρ, v, hk, Nat.le_refl n, fun _ _ => rfl, hg, hu, fun _ => rfl, fun _ => rfl⟩
theorem zMas_s {k : Nat → zS → List zV → Bool} (hg : zGa X P G pS h0 ρ0 ρ n σ K E h) (hl : zGl P ρ n vs us) (hk : zMas vs n σ k = true) : ∃ n' σ' ρ' vs', k n' σ' vs' = true ∧ n ≤ n' ∧ (∀ i, i < n → ρ' i = ρ i) ∧ zGa X P G pS h0 ρ0 ρ' n' σ' K E h ∧ zGl P ρ' n' vs' us := by
  induction vs generalizing us n σ ρ k with
  | nil => exact ⟨n, σ, ρ, [], hk, Nat.le_refl n, fun _ _ => rfl, hg, hl⟩
  | cons v r ih =>
    obtain ⟨u, q, rfl, h1, h2⟩ := zGl_cons hl
    unfold zMas at hk
    obtain ⟨n1, σ1, ρ1, v1, hk, l1, r1, g1, u1, -, -⟩ := zMa_s hg h1 hk
    obtain ⟨n2, σ2, ρ2, vs2, hk, l2, r2, g2, u2⟩ := ih g1 (h2.mono l1 r1) hk
    exact ⟨n2, σ2, ρ2, v1 :: vs2, hk, by omega, fun i hi => (r2 i (by omega)).trans (r1 i hi), g2, u1.mono l2 r2, u2⟩
theorem zCat_s (hu : zG P ρ n v u) (h9 : v.1 ≠ 9) : u.category = zCat v := by
  unfold zCat
  rcases hu with ⟨h1, x, rfl, -⟩ | ⟨h1, x, rfl, -⟩ | ⟨h1, r, rfl, -⟩ | ⟨h1, rfl⟩ | h1
  · have a : Nat.beq v.1 2 = false := by cases hb : Nat.beq v.1 2; · rfl
                                         · have := zbe hb; omega
    have b : Nat.beq v.1 3 = false := by cases hb : Nat.beq v.1 3; · rfl
                                         · have := zbe hb; omega
    have c : Nat.beq v.1 9 = false := by cases hb : Nat.beq v.1 9; · rfl
                                         · have := zbe hb; omega
    rw [a, b, c]
    rfl
  · have a : (Nat.beq v.1 2 || Nat.beq v.1 3) = true := by rcases h1 with e | e <;> rw [e] <;> rfl
    rw [a]
    rfl
  · rw [h1]
    rfl
  · rw [h1]
    rfl
  · exact absurd h1 h9
theorem zCats_s (hl : zGl P ρ n vs us) {m : Nat} (hm : zCats vs ≤ m) (h9 : m ≤ 8) : (us.map fun v => v.category).sum ≤ m := by
  have key : ∀ (vs : List zV) (us : List Value), zGl P ρ n vs us → zCats vs ≤ 8 → (us.map fun v => v.category).sum = zCats vs := by
    intro vs
    induction vs with
    | nil =>
      intro us hl _
      rw [zGl_nil hl]
      rfl
    | cons v r ih =>
      intro us hl h8
      obtain ⟨u, q, rfl, h1, h2⟩ := zGl_cons hl
      unfold zCats at h8 ⊢
      have h9 : v.1 ≠ 9 := by
        intro e
        have : zCat v = 9 := by unfold zCat; rw [e]; rfl
        omega
      rw [List.map_cons, List.sum_cons, zCat_s h1 h9, ih q h2 (by omega)]
  rw [key vs us hl (by omega)]
  exact hm
theorem zOkv_s {N : Nat} (hN : N ≤ 700) (hu : zG P ρ n v u) (h : zOkv N v = true) : aOkv N u = true := by
  unfold zOkv at h
  rcases hu with ⟨h1, x, rfl, -⟩ | ⟨h1, x, rfl, -⟩ | ⟨h1, r, rfl, hc⟩ | ⟨h1, rfl⟩ | h1
  · rfl
  · rfl
  · rw [h1] at h
    have h : (Nat.blt v.2.2.2 N || Nat.ble 90000 v.2.2.2) = true := h
    refine decide_eq_true ?_
    rcases zOr h with h | h
    · have h := zbt h
      rcases hc with ⟨_, e⟩ | ⟨e, -⟩ | ⟨e, -⟩
      · exact Or.inl (e ▸ h)
      · exact absurd h (by omega)
      · exact absurd h (by omega)
    · have h := zbl h
      rcases hc with ⟨e, -⟩ | ⟨-, e, -⟩ | ⟨_, e⟩
      · exact absurd h (by omega)
      · exact absurd h (by omega)
      · exact Or.inr (e ▸ h)
  · rfl
  · rw [h1] at h
    cases h
theorem zAll_s {N : Nat} (hN : N ≤ 700) (hl : zGl P ρ n vs us) (h : zAll (zOkv N) vs = true) : us.all (aOkv N) = true := by
  induction vs generalizing us with
  | nil =>
    rw [zGl_nil hl]
    rfl
  | cons v r ih =>
    obtain ⟨u, q, rfl, h1, h2⟩ := zGl_cons hl
    unfold zAll at h
    obtain ⟨ha, hb⟩ := zAnd h
    rw [List.all_cons, zOkv_s hN h1 ha, ih h2 hb]
    rfl
end ZST
/-! instructions that end no block and call nothing: the machine goes where the interpreter goes -/
def zKp (P : zP) (k : Nat → aK) (M0 M : Nat → Nat → Int32) : Prop := ∀ a i, 100 ≤ (k a).1 → i < zLo P (a * 128 + 127) → M a i = M0 a i
def zHG (P : zP) (G : aH → Prop) : Prop := ∀ (h : aH) (M' : Nat → Nat → Int32), P.al = false → zOff P.wm h.2.2.1 h.2.2.2 M' → zKp P h.2.2.1 h.2.2.2 M' → G h → G (h.1, h.2.1, h.2.2.1, M')
def zNext (X : aX) (P : zP) (G : aH → Prop) (pS : Nat) (h0 : aH) (ρ0 ρ : Nat → Int) (n : Nat) (h : aH) (k : Nat → zS → zK → List zE → List zV → List zV → Bool) (C : List Value → List Value → aH → Prop) : Prop :=
  ∃ n' σ' K' E' ls' st' ρ' h' lsC stC, k n' σ' K' E' ls' st' = true ∧ n ≤ n' ∧ (∀ i, i < n → ρ' i = ρ i) ∧ zGa X P G pS h0 ρ0 ρ' n' σ' K' E' h' ∧ zGl P ρ' n' ls' lsC ∧ zGl P ρ' n' st' stC ∧ h.1 ≤ h'.1 ∧ C lsC stC h'
section ZPA
variable {X : aX} {P : zP} {G : aH → Prop} {pS : Nat} {h0 h h' : aH} {ρ0 ρ ρ' : Nat → Int} {n n' : Nat} {σ : zS} {K : zK} {E E' : List zE} {v : zV} {u : Value} {ls st : List zV} {lsC stC : List Value}
  {k : Nat → zS → zK → List zE → List zV → List zV → Bool} {C : List Value → List Value → aH → Prop}
theorem zNx (hk : k n σ K E ls st = true) (hg : zGa X P G pS h0 ρ0 ρ n σ K E h) (hl : zGl P ρ n ls lsC) (hs : zGl P ρ n st stC) (hC : C lsC stC h) : zNext X P G pS h0 ρ0 ρ n h k C :=
  ⟨n, σ, K, E, ls, st, ρ, h, lsC, stC, hk, Nat.le_refl n, fun _ _ => rfl, hg, hl, hs, Nat.le_refl _, hC⟩
/-- the same with a state reached by new symbols, a new heap -/
theorem zNy (hk : k n' σ K E' ls st = true) (hn : n ≤ n') (hr : ∀ i, i < n → ρ' i = ρ i) (hg : zGa X P G pS h0 ρ0 ρ' n' σ K E' h') (hl : zGl P ρ' n' ls lsC) (hs : zGl P ρ' n' st stC) (hh : h.1 ≤ h'.1) (hC : C lsC stC h') : zNext X P G pS h0 ρ0 ρ n h k C :=
  ⟨n', σ, K, E', ls, st, ρ', h', lsC, stC, hk, hn, hr, hg, hl, hs, hh, hC⟩
theorem zBin_i {f : zS → zV → zV → (zV → Bool) → Bool} (h : zBin f n σ K E ls st k = true) (hs : zGl P ρ n st stC) : ∃ y x t uy ux tC, st = y :: x :: t ∧ stC = uy :: ux :: tC ∧ zG P ρ n y uy ∧ zG P ρ n x ux ∧ zGl P ρ n t tC ∧ f σ x y (fun v => k n σ K E ls (v :: t)) = true := by
  match st, h, hs with
  | [], h, _ => cases h
  | [a], h, _ => cases h
  | y :: x :: t, h, hs =>
    obtain ⟨uy, q, rfl, h1, hs⟩ := zGl_cons hs
    obtain ⟨ux, q, rfl, h2, hs⟩ := zGl_cons hs
    exact ⟨y, x, t, uy, ux, q, rfl, rfl, h1, h2, hs, h⟩
theorem zUn_i {f : zS → zV → (zV → Bool) → Bool} (h : zUn f n σ K E ls st k = true) (hs : zGl P ρ n st stC) : ∃ x t ux tC, st = x :: t ∧ stC = ux :: tC ∧ zG P ρ n x ux ∧ zGl P ρ n t tC ∧ f σ x (fun v => k n σ K E ls (v :: t)) = true := by
  match st, h, hs with
  | [], h, _ => cases h
  | x :: t, h, hs =>
    obtain ⟨ux, q, rfl, h2, hs⟩ := zGl_cons hs
    exact ⟨x, t, ux, q, rfl, rfl, h2, hs, h⟩
/-- of two ints an int -/
theorem zBin_ii {f : zS → zV → zV → (zV → Bool) → Bool} (hf : ∀ x y k, f σ x y k = true → (x.1 = 0 ∨ x.1 = 1) ∧ (y.1 = 0 ∨ y.1 = 1)) (hg : zGa X P G pS h0 ρ0 ρ n σ K E h) (hl : zGl P ρ n ls lsC) (hs : zGl P ρ n st stC)
    (hk : zBin f n σ K E ls st k = true) (hop : ∀ (x y : zV) (a b : Int32) (t : List Value) (kk : zV → Bool), stC = .int b :: .int a :: t → zN ρ n 0 x a.toInt → zN ρ n 0 y b.toInt → f σ x y kk = true → ∃ v c, zN ρ n 0 v (Int32.toInt c) ∧ kk v = true ∧ C lsC (.int c :: t) h) : zNext X P G pS h0 ρ0 ρ n h k C := by
  obtain ⟨y, x, t, uy, ux, tC, rfl, rfl, h1, h2, h3, hk⟩ := zBin_i hk hs
  obtain ⟨t1, t2⟩ := hf _ _ _ hk
  obtain ⟨b, rfl, hb⟩ := zG_int h1 t2
  obtain ⟨a, rfl, ha⟩ := zG_int h2 t1
  obtain ⟨v, c, hv, hk, hC⟩ := hop x y a b tC _ rfl ha hb hk
  exact zNx (stC := .int c :: tC) hk hg hl ⟨zGi hv, h3⟩ hC
theorem zBin_jj {f : zS → zV → zV → (zV → Bool) → Bool} (hf : ∀ x y k, f σ x y k = true → (x.1 = 2 ∨ x.1 = 3) ∧ (y.1 = 2 ∨ y.1 = 3)) (hg : zGa X P G pS h0 ρ0 ρ n σ K E h) (hl : zGl P ρ n ls lsC) (hs : zGl P ρ n st stC)
    (hk : zBin f n σ K E ls st k = true) (hop : ∀ (x y : zV) (a b : Int64) (t : List Value) (kk : zV → Bool), stC = .long b :: .long a :: t → zN ρ n 2 x a.toInt → zN ρ n 2 y b.toInt → f σ x y kk = true → ∃ v c, zN ρ n 2 v (Int64.toInt c) ∧ kk v = true ∧ C lsC (.long c :: t) h) : zNext X P G pS h0 ρ0 ρ n h k C := by
  obtain ⟨y, x, t, uy, ux, tC, rfl, rfl, h1, h2, h3, hk⟩ := zBin_i hk hs
  obtain ⟨t1, t2⟩ := hf _ _ _ hk
  obtain ⟨b, rfl, hb⟩ := zG_long h1 t2
  obtain ⟨a, rfl, ha⟩ := zG_long h2 t1
  obtain ⟨v, c, hv, hk, hC⟩ := hop x y a b tC _ rfl ha hb hk
  exact zNx (stC := .long c :: tC) hk hg hl ⟨zGj hv, h3⟩ hC
theorem zt_rg2 {w : Nat} {f : zS → zV → zV → (zV → Bool) → Bool} {g : (zV → Bool) → zV → zV → Int → Int → Int → Int → Bool} (hf : ∀ σ x y k, f σ x y k = zRg2 w σ x y (g k x y)) : ∀ x y k, f σ x y k = true → (x.1 = w ∨ x.1 = w + 1) ∧ (y.1 = w ∨ y.1 = w + 1) := fun x y k h => by
  rw [hf] at h
  exact zRg2_tag h
theorem zt_sub {w : Nat} : ∀ x y k, zSub w σ x y k = true → (x.1 = w ∨ x.1 = w + 1) ∧ (y.1 = w ∨ y.1 = w + 1) := fun x y k h => by
  unfold zSub at h
  rcases zCd h with ⟨c, h⟩ | ⟨-, h⟩
  · exact ⟨(zRg2_tag h).1, by
      rcases zOr c with c | c
      · exact Or.inl (zbe c)
      · exact Or.inr (zbe c)⟩
  · cases h
/-! the heap -/
theorem zMf {a f : Nat} (hf : f < 127) (i : Nat) : zM h (a * 128 + f) i = h.2.2.2 a f := by
  unfold zM
  rw [show (a * 128 + f) / 128 = a by omega, if_neg (by omega), show (a * 128 + f) % 128 = f by omega]
theorem zMa' {a : Nat} (i : Nat) : zM h (a * 128 + 127) i = h.2.2.2 a i := by
  unfold zM
  rw [show (a * 128 + 127) / 128 = a by omega, if_pos (by omega)]
theorem zPlf {a f : Nat} (hf : f < 127) (ha : a < h.1) (ha2 : a < 700) (hk : (h.2.2.1 a).1 < 100) : zPl h (a * 128 + f) := by
  unfold zPl
  rw [show (a * 128 + f) / 128 = a by omega, if_neg (by omega)]
  exact ⟨ha, by omega, hk⟩
theorem zPla {a : Nat} (ha : a < h.1) (ha2 : a < 700) (hk : 100 ≤ (h.2.2.1 a).1) : zPl h (a * 128 + 127) := by
  unfold zPl
  rw [show (a * 128 + 127) / 128 = a by omega, if_pos (by omega)]
  exact ⟨ha, by omega, hk⟩
theorem zPl_lt {p : Nat} (hp : zPl h p) : p ≠ 11520001 ∧ p ≠ 11520002 := by
  obtain ⟨-, h2, -⟩ := hp
  exact ⟨by omega, by omega⟩
theorem zGe_pl {e : zE} (hp : zPl h e.1) : zGe X ρ n h e ↔ ∀ i, e.2.1 ≤ i → i < e.2.2.1 → (e.1 % 128 ≠ 127 → i = 0) → zN ρ n 0 e.2.2.2 (zM h e.1 i).toInt := by
  unfold zGe
  obtain ⟨h1, h2⟩ := zPl_lt hp
  rw [if_neg h1, if_neg h2]
  exact ⟨fun q => q.2, fun q => ⟨hp, q⟩⟩
theorem zGe_at {e : zE} (k : zGe X ρ n h e) (h1 : e.1 ≠ 11520001) (h2 : e.1 ≠ 11520002) : zPl h e.1 := by
  unfold zGe at k
  rw [if_neg h1, if_neg h2] at k
  exact k.1
theorem zGet_s {p j j' : Nat} {d : zV} (hE : ∀ e ∈ E, zGe X ρ n h e) (hp : zPl h p) (hd : ∀ i, j ≤ i → i < j' → (p % 128 ≠ 127 → i = 0) → zN ρ n 0 d (zM h p i).toInt) : ∀ i, j ≤ i → i < j' → (p % 128 ≠ 127 → i = 0) → zN ρ n 0 (zGet E p j j' d) (zM h p i).toInt := by
  induction E with
  | nil => exact hd
  | cons e r ih =>
    unfold zGet
    cases c : (Nat.beq e.1 p && (Nat.ble e.2.1 j && Nat.ble j' e.2.2.1))
    · exact ih (fun e he => hE e (List.mem_cons_of_mem _ he))
    · obtain ⟨c1, c2⟩ := zAnd c
      obtain ⟨c2, c3⟩ := zAnd c2
      have c1 := zbe c1
      have c2 := zbl c2
      have c3 := zbl c3
      have he := hE e List.mem_cons_self
      intro i h1 h2 h3
      have := (zGe_pl (e := e) (by rw [c1]; exact hp)).mp he i (by omega) (by omega) (by rw [c1]; exact h3)
      rw [c1] at this
      exact this
theorem zIr_s {p i : Nat} (hI : zGI P h) (hp : zPl h p) (hi : p % 128 = 127 → i < (h.2.2.1 (p / 128)).2.1) : zN ρ n 0 (zIr P p) (zM h p i).toInt := by
  obtain ⟨h1, h2⟩ := hI p i hp hi
  exact znZ h1 h2
theorem zRd_s {p : Nat} {kk : Nat → zS → List zE → zV → Bool} (hg : zGa X P G pS h0 ρ0 ρ n σ K E h) (hp : zPl h p) (hf : p % 128 ≠ 127) (hk : zRd P n σ E p kk = true) :
    ∃ n' σ' E' ρ' v, kk n' σ' E' v = true ∧ n ≤ n' ∧ (∀ i, i < n → ρ' i = ρ i) ∧ zGa X P G pS h0 ρ0 ρ' n' σ' K E' h ∧ zN ρ' n' 0 v (zM h p 0).toInt := by
  unfold zRd at hk
  have hv := zGet_s (X := X) (E := E) (j := 0) (j' := 1) (d := zIr P p) hg.2.2.1 hp (fun i _ _ _ => zIr_s hg.2.2.2.1 hp (fun q => absurd q hf)) 0 (Nat.le_refl _) (by omega) (fun _ => rfl)
  generalize zGet E p 0 1 (zIr P p) = v at hk hv
  unfold zRdV at hk
  rcases zCd hk with ⟨c, hk⟩ | ⟨c, hk⟩
  · have c := zbe c
    rcases hv with ⟨e, -⟩ | ⟨-, h1, h2⟩
    · omega
    · have g2 := hg.new h1 h2
      refine ⟨_, _, _, _, _, hk, Nat.le_succ n, fun i hi => if_neg (by omega), ⟨g2.1, g2.2.1, fun e he => ?_, g2.2.2.2⟩, zN_new⟩
      rcases List.mem_cons.mp he with rfl | he
      · refine (zGe_pl hp).mpr (fun i q1 q2 q3 => ?_)
        rw [q3 hf]
        exact zN_new
      · exact g2.2.2.1 e he
  · exact ⟨n, σ, E, ρ, v, hk, Nat.le_refl n, fun _ _ => rfl, hg, hv⟩
/-- numbers are written -/
theorem zGa.wr {M' : Nat → Nat → Int32} (hV : zVal P) (hG : zHG P G) (hg : zGa X P G pS h0 ρ0 ρ n σ K E h) (hE : ∀ e ∈ E', zGe X ρ n (h.1, h.2.1, h.2.2.1, M') e) (hI : zGI P (h.1, h.2.1, h.2.2.1, M')) (ho : zOff P.wm h.2.2.1 h.2.2.2 M') (hkp : zKp P h.2.2.1 h.2.2.2 M') : zGa X P G pS h0 ρ0 ρ n σ K E' (h.1, h.2.1, h.2.2.1, M') := by
  obtain ⟨g1, g2, g3, g4, g5, g6⟩ := hg
  refine ⟨g1, g2, hE, hI, fun al => ?_, g6⟩
  obtain ⟨q1, q2, q3, q4, q5⟩ := g5 al
  have hb : ∀ p, zBit P.md p = false → zBit P.wm p = false := fun p hp => by
    cases hw : zBit P.wm p
    · rfl
    · rw [hV.2.2.2.1 p hw] at hp
      cases hp
  refine ⟨hG h M' al ho hkp q1, fun a => ⟨fun h1 f hf hm => ?_, fun h1 hm => ?_⟩, q3, q4, q5⟩
  · exact ((ho a).1 h1 f hf (hb _ hm)).trans ((q2 a).1 h1 f hf hm)
  · exact ((ho a).2 h1 (hb _ hm)).trans ((q2 a).2 h1 hm)
theorem zTrim_s {p j j' : Nat} {M' : Nat → Nat → Int32} (hE : ∀ e ∈ E, zGe X ρ n h e) (hs : ∀ q i, zPl h q → (q = p → (i < j ∨ j' ≤ i)) → (q % 128 ≠ 127 → i = 0) → zM (h.1, h.2.1, h.2.2.1, M') q i = zM h q i) : ∀ e ∈ zTrim E p j j', zGe X ρ n (h.1, h.2.1, h.2.2.1, M') e := by
  have keep : ∀ e : zE, zGe X ρ n h e → ∀ f t, e.2.1 ≤ f → t ≤ e.2.2.1 → (e.1 = p → ∀ i, f ≤ i → i < t → (i < j ∨ j' ≤ i)) → zGe X ρ n (h.1, h.2.1, h.2.2.1, M') (e.1, f, t, e.2.2.2) := by
    intro e he f t hf ht hov
    by_cases c1 : e.1 = 11520001
    · unfold zGe at he ⊢
      rw [if_pos c1] at he ⊢
      exact ⟨he.1, fun i h1 h2 => he.2 i (by have h1 : f ≤ i := h1; omega) (by have h2 : i < t := h2; omega)⟩
    · by_cases c2 : e.1 = 11520002
      · unfold zGe at he ⊢
        rw [if_neg c1, if_pos c2] at he ⊢
        exact he
      · have hp := zGe_at he c1 c2
        have hp' : zPl (h.1, h.2.1, h.2.2.1, M') e.1 := hp
        refine (zGe_pl (e := (e.1, f, t, e.2.2.2)) hp').mpr (fun i h1 h2 h3 => ?_)
        have h1 : f ≤ i := h1
        have h2 : i < t := h2
        show zN ρ n 0 e.2.2.2 (zM (h.1, h.2.1, h.2.2.1, M') e.1 i).toInt
        rw [hs e.1 i hp (fun q => hov q i h1 h2) h3]
        exact (zGe_pl hp).mp he i (by omega) (by omega) h3
  induction E with
  | nil => intro e he; cases he
  | cons a r ih =>
    intro e he
    have iha := ih (fun e he => hE e (List.mem_cons_of_mem _ he))
    have ha := hE a List.mem_cons_self
    unfold zTrim at he
    cases c : zHit a p j j'
    · rw [c] at he
      rcases List.mem_cons.mp he with rfl | he
      · have k := keep e ha e.2.1 e.2.2.1 (Nat.le_refl _) (Nat.le_refl _) (fun q i h1 h2 => by
          unfold zHit at c
          rcases zAndF c with c | c
          · exact absurd q (zbn c)
          · rcases zAndF c with c | c
            · have := zbtF c
              omega
            · have := zbtF c
              omega)
        exact k
      · exact iha e he
    · rw [c] at he
      have he : e ∈ zCut a j j' (zTrim r p j j') := he
      unfold zCut at he
      cases c2 : Nat.beq a.2.1 j
      · rw [c2] at he
        rcases List.mem_cons.mp he with rfl | he
        · refine keep a ha a.2.1 j (Nat.le_refl _) ?_ (fun q i h1 h2 => Or.inl h2)
          unfold zHit at c
          have := zbt (zAnd (zAnd c).2).2
          omega
        · exact iha e he
      · rw [c2] at he
        have c2 := zbe c2
        cases c3 : Nat.ble a.2.2.1 j'
        · rw [c3] at he
          rcases List.mem_cons.mp he with rfl | he
          · refine keep a ha j' a.2.2.1 ?_ (Nat.le_refl _) (fun q i h1 h2 => Or.inr h1)
            unfold zHit at c
            have := zbt (zAnd (zAnd c).2).1
            omega
          · exact iha e he
        · rw [c3] at he
          exact iha e he
theorem zWeak_s {p j j' : Nat} {lo hi : Int} {M' : Nat → Nat → Int32} (hE : ∀ e ∈ E, zGe X ρ n h e) (hs : ∀ q i, zPl h q → (q % 128 ≠ 127 → i = 0) → zM (h.1, h.2.1, h.2.2.1, M') q i = zM h q i ∨ (q = p ∧ lo ≤ (zM (h.1, h.2.1, h.2.2.1, M') q i).toInt ∧ (zM (h.1, h.2.1, h.2.2.1, M') q i).toInt ≤ hi ∧ j ≤ i ∧ i < j')) : ∀ e ∈ zWeak lo hi E p j j', zGe X ρ n (h.1, h.2.1, h.2.2.1, M') e := by
  induction E with
  | nil => intro e he; cases he
  | cons a r ih =>
    intro e he
    have iha := ih (fun e he => hE e (List.mem_cons_of_mem _ he))
    have ha := hE a List.mem_cons_self
    unfold zWeak at he
    cases c : (zHit a p j j' && (bif zHolds lo hi a.2.2.2 then false else true))
    · rw [c] at he
      rcases List.mem_cons.mp he with rfl | he
      · by_cases c1 : e.1 = 11520001
        · unfold zGe at ha ⊢
          rw [if_pos c1] at ha ⊢
          exact ha
        · by_cases c2 : e.1 = 11520002
          · unfold zGe at ha ⊢
            rw [if_neg c1, if_pos c2] at ha ⊢
            exact ha
          · have hp := zGe_at ha c1 c2
            have hp' : zPl (h.1, h.2.1, h.2.2.1, M') e.1 := hp
            refine (zGe_pl hp').mpr (fun i h1 h2 h3 => ?_)
            have hb := (zGe_pl hp).mp ha i h1 h2 h3
            rcases hs e.1 i hp h3 with q | ⟨q, l1, l2, l3, l4⟩
            · rw [q]
              exact hb
            · rcases zAndF c with c | c
              · unfold zHit at c
                rcases zAndF c with c | c
                · exact absurd q (zbn c)
                · rcases zAndF c with c | c
                  · have := zbtF c
                    omega
                  · have := zbtF c
                    omega
              · cases c3 : zHolds lo hi e.2.2.2
                · rw [c3] at c
                  cases c
                · unfold zHolds at c3
                  rcases zCd c3 with ⟨c4, c5⟩ | ⟨-, c5⟩
                  · obtain ⟨c5, c6⟩ := zAnd c5
                    have := zl c5
                    have := zl c6
                    exact Or.inr ⟨zbe c4, by omega, by omega⟩
                  · obtain ⟨c4, c5⟩ := zAnd c5
                    obtain ⟨c5, c6⟩ := zAnd c5
                    obtain ⟨c6, c7⟩ := zAnd c6
                    have c5 := ze c5
                    have c6 := ze c6
                    have c7 := ze c7
                    refine Or.inl ⟨zbe c4, Or.inl (by rw [c5]; rfl), ?_⟩
                    rw [c5, z0_eq]
                    omega
      · exact iha e he
    · rw [c] at he
      exact iha e he
/-- a number is written to a field, to an array -/
theorem zGI_put {a j : Nat} {x : Int32} (hI : zGI P h) (ha : (h.2.2.1 a).1 < 100 → (P.zI (a * 128 + j)).1 ≤ x.toInt ∧ x.toInt ≤ (P.zI (a * 128 + j)).2) (hb : 100 ≤ (h.2.2.1 a).1 → (P.zI (a * 128 + 127)).1 ≤ x.toInt ∧ x.toInt ≤ (P.zI (a * 128 + 127)).2) : zGI P (h.1, h.2.1, h.2.2.1, aPut h.2.2.2 a j x) := by
  intro p i hp hi
  have h0 := hI p i hp hi
  by_cases q : p / 128 = a ∧ (if p % 128 = 127 then i else p % 128) = j
  · obtain ⟨q1, q2⟩ := q
    have e : zM (h.1, h.2.1, h.2.2.1, aPut h.2.2.2 a j x) p i = x := by
      unfold zM aPut
      dsimp only
      rw [if_pos q1, if_pos q2]
    rw [e]
    obtain ⟨-, -, hp3⟩ := hp
    by_cases c : p % 128 = 127
    · rw [if_pos c, q1] at hp3
      have := hb hp3
      rwa [show a * 128 + 127 = p by omega] at this
    · rw [if_neg c, q1] at hp3
      rw [if_neg c] at q2
      have := ha hp3
      rwa [show a * 128 + j = p by omega] at this
  · have e : zM (h.1, h.2.1, h.2.2.1, aPut h.2.2.2 a j x) p i = zM h p i := by
      unfold zM aPut
      dsimp only
      by_cases q1 : p / 128 = a
      · rw [if_pos q1, if_neg (fun z => q ⟨q1, z⟩)]
      · rw [if_neg q1]
    rw [e]
    exact h0
theorem zM_put {a j : Nat} {x : Int32} {p i : Nat} (hne : ¬ (p / 128 = a ∧ (if p % 128 = 127 then i else p % 128) = j)) : zM (h.1, h.2.1, h.2.2.1, aPut h.2.2.2 a j x) p i = zM h p i := by
  unfold zM aPut
  dsimp only
  by_cases q1 : p / 128 = a
  · rw [if_pos q1, if_neg (fun z => hne ⟨q1, z⟩)]
  · rw [if_neg q1]
theorem zOff_putf {m a f : Nat} {x : Int32} (hk : (h.2.2.1 a).1 < 100) (hb : zBit m (a * 128 + f) = true) : zOff m h.2.2.1 h.2.2.2 (aPut h.2.2.2 a f x) := by
  intro b
  refine ⟨fun h1 g hg hm => ?_, fun h1 hm => ?_⟩
  · unfold aPut
    by_cases e : b = a
    · rw [if_pos e]
      by_cases e2 : g = f
      · rw [e, e2, hb] at hm
        cases hm
      · rw [if_neg e2]
    · rw [if_neg e]
  · funext i
    unfold aPut
    by_cases e : b = a
    · rw [e] at h1
      omega
    · rw [if_neg e]
theorem zKp_putf {P : zP} {a f : Nat} {x : Int32} (hk : (h.2.2.1 a).1 < 100) : zKp P h.2.2.1 h.2.2.2 (aPut h.2.2.2 a f x) := by
  intro b i h1 _
  unfold aPut
  have e : b ≠ a := fun z => by rw [z] at h1; omega
  rw [if_neg e]
theorem zKp_puta {P : zP} {a j : Nat} {x : Int32} (hj : zLo P (a * 128 + 127) ≤ j) : zKp P h.2.2.1 h.2.2.2 (aPut h.2.2.2 a j x) := by
  intro b i h1 h2
  unfold aPut
  by_cases e : b = a
  · rw [if_pos e, if_neg (by rw [e] at h2; omega)]
  · rw [if_neg e]
theorem zLoM_s {P : zP} {a j b : Nat} (h : zLoM P a j = true) (hb : b ∈ P.ps a) : zLo P (b * 128 + 127) ≤ j := by
  unfold zLoM at h
  have key : ∀ l : List Nat, zAll (fun b => Nat.ble (zLo P (b * 128 + 127)) j) l = true → ∀ b ∈ l, zLo P (b * 128 + 127) ≤ j := by
    intro l
    induction l with
    | nil => intro _ b hb; cases hb
    | cons x r ih =>
      intro h b hb
      unfold zAll at h
      obtain ⟨h1, h2⟩ := zAnd h
      rcases List.mem_cons.mp hb with rfl | hb
      · exact zbl h1
      · exact ih h2 b hb
  exact key _ h b hb
theorem zOff_puta {m a j : Nat} {x : Int32} (hk : 100 ≤ (h.2.2.1 a).1) (hb : zBit m (a * 128 + 127) = true) : zOff m h.2.2.1 h.2.2.2 (aPut h.2.2.2 a j x) := by
  intro b
  refine ⟨fun h1 g hg hm => ?_, fun h1 hm => ?_⟩
  · unfold aPut
    by_cases e : b = a
    · rw [e] at h1
      omega
    · rw [if_neg e]
  · funext i
    unfold aPut
    by_cases e : b = a
    · rw [e, hb] at hm
      cases hm
    · rw [if_neg e]
end ZPA
/-! instruction by instruction -/
section ZIN
variable {X : aX} {P : zP} {G : aH → Prop} {pS : Nat} {h0 h h' : aH} {ρ0 ρ ρ' : Nat → Int} {n n' : Nat} {σ : zS} {K : zK} {E E' : List zE} {v : zV} {u : Value} {ls st : List zV} {lsC stC : List Value}
  {k : Nat → zS → zK → List zE → List zV → List zV → Bool} {C : List Value → List Value → aH → Prop}
theorem zS_push (hk : zPush v n σ K E ls st k = true) (hg : zGa X P G pS h0 ρ0 ρ n σ K E h) (hl : zGl P ρ n ls lsC) (hs : zGl P ρ n st stC) (hu : zG P ρ n v u) (hC : C lsC (u :: stC) h) : zNext X P G pS h0 ρ0 ρ n h k C :=
  zNx (stC := u :: stC) hk hg hl ⟨hu, hs⟩ hC
theorem zofi {z : Int} (h1 : zMn 0 ≤ z) (h2 : z ≤ zMx 0) : (Int32.ofInt z).toInt = z := by
  have a : (-2147483648 : Int) ≤ z := h1
  have b : z ≤ 2147483647 := h2
  exact Int32.toInt_ofInt_of_le (by omega) (by omega)
theorem zS_bi {z : Int} (hk : zBi z n σ K E ls st k = true) (hg : zGa X P G pS h0 ρ0 ρ n σ K E h) (hl : zGl P ρ n ls lsC) (hs : zGl P ρ n st stC) (hC : C lsC (.int (Int32.ofInt z) :: stC) h) : zNext X P G pS h0 ρ0 ρ n h k C := by
  unfold zBi at hk
  rcases zCd hk with ⟨c, hk⟩ | ⟨-, hk⟩
  · obtain ⟨c1, c2⟩ := zAnd c
    exact zNx (stC := .int (Int32.ofInt z) :: stC) hk hg hl ⟨zGi (znC (zofi (zl c1) (zl c2))), hs⟩ hC
  · cases hk
theorem zIs_t {w : Nat} (h : zIs w v = true) : v.1 = w ∨ (v.1 = w + 1 ∧ w < 4) := by
  unfold zIs at h
  rcases zOr h with h | h
  · exact Or.inl (zbe h)
  · obtain ⟨h1, h2⟩ := zAnd h
    exact Or.inr ⟨zbe h1, zbt h2⟩
theorem zS_load {w j : Nat} (hk : zLoad w j n σ K E ls st k = true) (hg : zGa X P G pS h0 ρ0 ρ n σ K E h) (hl : zGl P ρ n ls lsC) (hs : zGl P ρ n st stC) (hC : ∀ v u, lsC[j]? = some u → zG P ρ n v u → zIs w v = true → C lsC (u :: stC) h) : zNext X P G pS h0 ρ0 ρ n h k C := by
  obtain ⟨v, u, h1, h2, h3, -⟩ := zGl_at hl hk
  rcases zCd h3 with ⟨c, hk⟩ | ⟨-, hk⟩
  · exact zNx (stC := u :: stC) hk hg hl ⟨h2, hs⟩ (hC v u h1 h2 c)
  · cases hk
theorem zAhead_s {j : Nat} {b : Bool} (hl : zGl P ρ n ls lsC) (h : zAhead ls j b = true) : b = true ∧ (∀ x, aSt lsC j x = lsC.set j x) := by
  unfold zAhead at h
  rcases zCd h with ⟨c, h⟩ | ⟨c, h⟩
  · refine ⟨h, fun x => ?_⟩
    rw [zbe c]
    rfl
  · have c := zbn c
    obtain ⟨v, u, h1, h2, h3, -⟩ := zGl_at hl h
    rcases zCd h3 with ⟨c2, h⟩ | ⟨-, h⟩
    · refine ⟨h, fun x => ?_⟩
      have c2 := zbe c2
      have h9 : v.1 ≠ 9 := by
        intro e
        have : zCat v = 9 := by unfold zCat; rw [e]; rfl
        omega
      have hc := zCat_s h2 h9
      obtain ⟨m, rfl⟩ : ∃ m, j = m + 1 := ⟨j - 1, by omega⟩
      rw [Nat.add_sub_cancel] at h1
      have e : aSt lsC (m + 1) x = (match lsC[m]? with
        | some w => if w.category = 2 then (lsC.set m aD).set (m + 1) x else lsC.set (m + 1) x
        | none => lsC.set (m + 1) x) := rfl
      rw [e, h1]
      exact if_neg (by omega)
    · cases h
theorem zS_store {w j : Nat} (hk : zStore w j n σ K E ls st k = true) (hg : zGa X P G pS h0 ρ0 ρ n σ K E h) (hl : zGl P ρ n ls lsC) (hs : zGl P ρ n st stC) (hC : ∀ v u t, stC = u :: t → zG P ρ n v u → zIs w v = true → j < lsC.length → (∀ x, aSt lsC j x = lsC.set j x) → C (lsC.set j u) t h) : zNext X P G pS h0 ρ0 ρ n h k C := by
  match st, hk, hs with
  | [], hk, _ => cases hk
  | v :: t, hk, hs =>
    obtain ⟨u, q, rfl, h1, hs⟩ := zGl_cons hs
    have hk : zStoreV w j n σ K E ls t v k = true := hk
    unfold zStoreV at hk
    rcases zCd hk with ⟨c, hk⟩ | ⟨-, hk⟩
    · obtain ⟨c1, c2⟩ := zAnd c
      have c2 := zbt c2
      obtain ⟨hk, ha⟩ := zAhead_s hl hk
      obtain ⟨n', σ', ρ', v', hk, l1, r1, g1, u1, -⟩ := zMa_s hg h1 hk
      exact zNy hk l1 r1 g1 (zGl_set (hl.mono l1 r1) u1) (hs.mono l1 r1) (Nat.le_refl _) (hC v u q rfl h1 c1 (by rw [← zGl_len hl]; exact c2) ha)
    · cases hk
theorem zS_storeL {j : Nat} (hk : zStoreL j n σ K E ls st k = true) (hg : zGa X P G pS h0 ρ0 ρ n σ K E h) (hl : zGl P ρ n ls lsC) (hs : zGl P ρ n st stC) (hC : ∀ v u t, stC = u :: t → zG P ρ n v u → zIs 2 v = true → j + 1 < lsC.length → (∀ x, aSt lsC j x = lsC.set j x) → C ((lsC.set j u).set (j + 1) aD) t h) : zNext X P G pS h0 ρ0 ρ n h k C := by
  match st, hk, hs with
  | [], hk, _ => cases hk
  | v :: t, hk, hs =>
    obtain ⟨u, q, rfl, h1, hs⟩ := zGl_cons hs
    have hk : zStoreW j n σ K E ls t v k = true := hk
    unfold zStoreW at hk
    rcases zCd hk with ⟨c, hk⟩ | ⟨-, hk⟩
    · obtain ⟨c1, c2⟩ := zAnd c
      have c2 := zbt c2
      obtain ⟨hk, ha⟩ := zAhead_s hl hk
      obtain ⟨n', σ', ρ', v', hk, l1, r1, g1, u1, -⟩ := zMa_s hg h1 hk
      exact zNy hk l1 r1 g1 (zGl_set (zGl_set (hl.mono l1 r1) u1) zGd) (hs.mono l1 r1) (Nat.le_refl _) (hC v u q rfl h1 c1 (by rw [← zGl_len hl]; exact c2) ha)
    · cases hk
theorem zS_inc {j : Nat} {c : Int} (hk : zInc j c n σ K E ls st k = true) (hg : zGa X P G pS h0 ρ0 ρ n σ K E h) (hl : zGl P ρ n ls lsC) (hs : zGl P ρ n st stC) (hC : ∀ x : Int32, lsC[j]? = some (.int x) → j < lsC.length → (∀ x, aSt lsC j x = lsC.set j x) → C (lsC.set j (.int (x + Int32.ofInt c))) stC h) : zNext X P G pS h0 ρ0 ρ n h k C := by
  obtain ⟨hk, ha⟩ := zAhead_s hl hk
  obtain ⟨v, u, h1, h2, hk, h3⟩ := zGl_at hl hk
  obtain ⟨x, rfl, hx⟩ := zG_int h2 (zRg2_tag hk).1
  obtain ⟨v', hv, hk⟩ := zo_add hg.1 hx (znC (w := 0) rfl) hk
  exact zNx hk hg (zGl_set hl (zGi hv)) hs (hC x h1 h3 ha)
theorem zCat1_s (hu : zG P ρ n v u) (h : zCat1 v = true) : u.category = 1 := by
  unfold zCat1 at h
  rcases zOr h with h | h
  · have := zbl h
    obtain ⟨x, rfl, -⟩ := zG_int hu (by omega)
    rfl
  · obtain ⟨r, rfl, -⟩ := zG_ref hu (zbe h)
    rfl
theorem zS_dup (hk : zDup n σ K E ls st k = true) (hg : zGa X P G pS h0 ρ0 ρ n σ K E h) (hl : zGl P ρ n ls lsC) (hs : zGl P ρ n st stC) (hC : ∀ u t, stC = u :: t → u.category = 1 → C lsC (u :: u :: t) h) : zNext X P G pS h0 ρ0 ρ n h k C := by
  match st, hk, hs with
  | [], hk, _ => cases hk
  | v :: t, hk, hs =>
    obtain ⟨u, q, rfl, h1, hs⟩ := zGl_cons hs
    have hk : (bif zCat1 v then zMa n σ v fun n σ v => k n σ K E ls (v :: v :: t) else false) = true := hk
    rcases zCd hk with ⟨c, hk⟩ | ⟨-, hk⟩
    · obtain ⟨n', σ', ρ', v', hk, l1, r1, g1, u1, -⟩ := zMa_s hg h1 hk
      exact zNy (stC := u :: u :: q) hk l1 r1 g1 (hl.mono l1 r1) ⟨u1, u1, hs.mono l1 r1⟩ (Nat.le_refl _) (hC u q rfl (zCat1_s h1 c))
    · cases hk
theorem zS_pop (hk : zPop n σ K E ls st k = true) (hg : zGa X P G pS h0 ρ0 ρ n σ K E h) (hl : zGl P ρ n ls lsC) (hs : zGl P ρ n st stC) (hC : ∀ u t, stC = u :: t → u.category = 1 → C lsC t h) : zNext X P G pS h0 ρ0 ρ n h k C := by
  match st, hk, hs with
  | [], hk, _ => cases hk
  | v :: t, hk, hs =>
    obtain ⟨u, q, rfl, h1, hs⟩ := zGl_cons hs
    have hk : (bif zCat1 v then k n σ K E ls t else false) = true := hk
    rcases zCd hk with ⟨c, hk⟩ | ⟨-, hk⟩
    · exact zNx hk hg hl hs (hC u q rfl (zCat1_s h1 c))
    · cases hk
theorem zS_dup2 (hk : zDup2 n σ K E ls st k = true) (hg : zGa X P G pS h0 ρ0 ρ n σ K E h) (hl : zGl P ρ n ls lsC) (hs : zGl P ρ n st stC) (hC : ∀ u w t, stC = u :: w :: t → u.category = 1 → w.category = 1 → C lsC (u :: w :: u :: w :: t) h) : zNext X P G pS h0 ρ0 ρ n h k C := by
  match st, hk, hs with
  | [], hk, _ => cases hk
  | [_], hk, _ => cases hk
  | v :: w :: t, hk, hs =>
    obtain ⟨u, q, rfl, h1, hs⟩ := zGl_cons hs
    obtain ⟨u2, q, rfl, h2, hs⟩ := zGl_cons hs
    have hk : (bif zCat1 v && zCat1 w then k n σ K E ls (v :: w :: v :: w :: t) else false) = true := hk
    rcases zCd hk with ⟨c, hk⟩ | ⟨-, hk⟩
    · obtain ⟨c1, c2⟩ := zAnd c
      exact zNx (stC := u :: u2 :: u :: u2 :: q) hk hg hl ⟨h1, h2, h1, h2, hs⟩ (hC u u2 q rfl (zCat1_s h1 c1) (zCat1_s h2 c2))
    · cases hk
theorem zS_lcmp (hk : zLcmp n σ K E ls st k = true) (hg : zGa X P G pS h0 ρ0 ρ n σ K E h) (hl : zGl P ρ n ls lsC) (hs : zGl P ρ n st stC) (hC : ∀ (a b : Int64) t, stC = .long b :: .long a :: t → C lsC (.int (lg_cmp a b) :: t) h) : zNext X P G pS h0 ρ0 ρ n h k C := by
  match st, hk, hs with
  | [], hk, _ => cases hk
  | [_], hk, _ => cases hk
  | y :: x :: t, hk, hs =>
    obtain ⟨u, q0, rfl, h1, hs0⟩ := zGl_cons hs
    obtain ⟨u2, q, rfl, h2, hs1⟩ := zGl_cons hs0
    have hk : zLcmpV n σ K E ls t x y k = true := hk
    unfold zLcmpV at hk
    obtain ⟨k1, hk⟩ := zAnd hk
    obtain ⟨k2, k3⟩ := zAnd hk
    have tg := zPr_tag k1
    obtain ⟨b, rfl, hb⟩ := zG_long h1 tg.2
    obtain ⟨a, rfl, ha⟩ := zG_long h2 tg.1
    have hC := hC a b q rfl
    have e : lg_cmp a b = if b.toInt < a.toInt then 1 else if a.toInt = b.toInt then 0 else -1 := by
      unfold lg_cmp
      simp only [gt_iff_lt, Int64.lt_iff_toInt_lt, ← Int64.toInt_inj]
    rw [e] at hC
    by_cases c1 : b.toInt < a.toInt
    · rw [if_pos c1] at hC
      obtain ⟨s', g', hk⟩ := zLt_s hg.1 hb ha c1 k3
      exact zNx (stC := .int 1 :: q) hk (hg.sym g') hl ⟨zGi (znC (w := 0) rfl), hs1⟩ hC
    · rw [if_neg c1] at hC
      by_cases c2 : a.toInt = b.toInt
      · rw [if_pos c2] at hC
        obtain ⟨s', g', hk⟩ := zEq_s hg.1 ha hb c2 k2
        exact zNx (stC := .int 0 :: q) hk (hg.sym g') hl ⟨zGi (znC (w := 0) rfl), hs1⟩ hC
      · rw [if_neg c2] at hC
        obtain ⟨s', g', hk⟩ := zLt_s hg.1 ha hb (by omega) k1
        exact zNx (stC := .int (-1) :: q) hk (hg.sym g') hl ⟨zGi (znC (w := 0) rfl), hs1⟩ hC
/-! cells -/
theorem zRef_s {kk : Nat → Bool} (hu : zG P ρ n v u) (h : zRef v kk = true) : ∃ r : Nat, u = .ref r ∧ zGc P v.2.2.2 r ∧ kk v.2.2.2 = true := by
  unfold zRef at h
  rcases zCd h with ⟨c, h⟩ | ⟨-, h⟩
  · obtain ⟨r, h1, h2⟩ := zG_ref hu (zbe c)
    exact ⟨r, h1, h2, h⟩
  · cases h
theorem zGc_ex {s r : Nat} (hc : zGc P s r) (h : s < 700) : r = s := by
  rcases hc with ⟨_, e⟩ | ⟨e, -⟩ | ⟨e, -⟩
  · exact e
  · omega
  · omega
theorem zGc_ps {s r : Nat} (hc : zGc P s r) (h : ¬ s < 700) (h2 : r < 700) : 700 ≤ s ∧ s < 1000 ∧ r ∈ P.ps s := by
  rcases hc with ⟨e, -⟩ | e | ⟨e, e2⟩
  · omega
  · exact e
  · exact absurd h2 (by rw [e2]; omega)
/-- what may be read of a cell without its being told -/
theorem zIr_c {s r f i : Nat} (hV : zVal P) (hI : zGI P h) (hc : zGc P s r) (hr : r < 700) (hf : f < 128) (hp : zPl h (r * 128 + f)) (hi : f = 127 → i < (h.2.2.1 r).2.1) : zN ρ n 0 (zIr P (s * 128 + f)) (zM h (r * 128 + f) i).toInt := by
  have hb := hI (r * 128 + f) i hp (fun q => by
    rw [show (r * 128 + f) / 128 = r by omega]
    exact hi (by omega))
  by_cases q : s < 700
  · have e := zGc_ex hc q
    subst e
    exact znZ hb.1 hb.2
  · obtain ⟨q1, q2, q3⟩ := zGc_ps hc q hr
    obtain ⟨-, q4, q5⟩ := hV.2.1 s r f q1 q2 q3 hf
    exact znZ (by omega) (by omega)
theorem zS_getf {c f t : Nat} (hV : zVal P) (hk : zGetf P c f t n σ K E ls st k = true) (hc : c < 100) (hg : zGa X P G pS h0 ρ0 ρ n σ K E h) (hl : zGl P ρ n ls lsC) (hs : zGl P ρ n st stC)
    (hC : ∀ a q, stC = .ref a :: q → a < h.1 → (h.2.2.1 a).1 = c → C lsC ((if t = 2 then aRf ((h.2.2.1 a).2.2 f) else .int (h.2.2.2 a f)) :: q) h) : zNext X P G pS h0 ρ0 ρ n h k C := by
  match st, hk, hs with
  | [], hk, _ => cases hk
  | v :: r, hk, hs =>
    obtain ⟨u, q, rfl, h1, hs1⟩ := zGl_cons hs
    have hk : zRef v (fun a => zGetV c f t a (zCe P K a) n σ K E ls r P k) = true := hk
    obtain ⟨a, rfl, hca, hk⟩ := zRef_s h1 hk
    unfold zGetV at hk
    rcases zCd hk with ⟨c1, hk⟩ | ⟨-, hk⟩
    · have c1 := zbe c1
      obtain ⟨b1, b2, b3, b4, b5, b6⟩ := hg.2.1.2.2 v.2.2.2 a hca (by omega)
      have hC := hC a q rfl b1 (b3.trans c1)
      cases c2 : Nat.beq t 2
      · rw [c2] at hk
        rw [if_neg (zbn c2)] at hC
        have hk : zGetN v.2.2.2 f (zCe P K v.2.2.2) n σ K E ls r P k = true := hk
        unfold zGetN at hk
        rcases zCd hk with ⟨c3, hk⟩ | ⟨-, hk⟩
        · have c3 := zbt c3
          have hp : zPl h (a * 128 + f) := zPlf c3 b1 b2 (by omega)
          rcases zCd hk with ⟨c4, hk⟩ | ⟨c4, hk⟩
          · have c4 := zbt c4
            rw [← zGc_ex hca c4] at hk
            obtain ⟨n', σ', E', ρ', v', hk, l1, r1, g1, u1⟩ := zRd_s hg hp (by omega) hk
            rw [zMf c3] at u1
            exact zNy (stC := .int (h.2.2.2 a f) :: q) hk l1 r1 g1 (hl.mono l1 r1) ⟨zGi u1, hs1.mono l1 r1⟩ (Nat.le_refl _) hC
          · have hv := zIr_c (ρ := ρ) (n := n) (i := 0) hV hg.2.2.2.1 hca b2 (by omega) hp (fun e => by omega)
            rw [zMf c3] at hv
            exact zNx (stC := .int (h.2.2.2 a f) :: q) hk hg hl ⟨zGi hv, hs1⟩ hC
        · cases hk
      · rw [c2] at hk
        rw [if_pos (zbe c2)] at hC
        have hk : zGetR v.2.2.2 f (zCe P K v.2.2.2) n σ K E ls r P k = true := hk
        unfold zGetR at hk
        rcases zCd hk with ⟨c3, hk⟩ | ⟨-, hk⟩
        · obtain ⟨r', e1, e2⟩ := b5 f (zbt c3)
          rw [e1] at hC
          exact zNx (stC := .ref r' :: q) hk hg hl ⟨zGr e2, hs1⟩ hC
        · cases hk
    · cases hk
theorem zMay1_s {p : Nat} {lo hi : Int} (h : zMay1 P p lo hi = true) : zBit P.wm p = true ∧ (P.zI p).1 ≤ lo ∧ hi ≤ (P.zI p).2 := by
  unfold zMay1 zFit at h
  obtain ⟨h1, h2⟩ := zAnd h
  obtain ⟨h2, h3⟩ := zAnd h2
  exact ⟨h1, zl h2, zl h3⟩
theorem zMem_s {a f b : Nat} {lo hi : Int} (h : zMem P a f lo hi = true) (hb : b ∈ P.ps a) : zMay1 P (b * 128 + f) lo hi = true := by
  unfold zMem at h
  have key : ∀ l : List Nat, zAll (fun b => zMay1 P (b * 128 + f) lo hi) l = true → b ∈ l → zMay1 P (b * 128 + f) lo hi = true := by
    intro l
    induction l with
    | nil => intro _ hb; cases hb
    | cons x r ih =>
      intro h hb
      unfold zAll at h
      obtain ⟨h1, h2⟩ := zAnd h
      rcases List.mem_cons.mp hb with rfl | hb
      · exact h1
      · exact ih h2 hb
  exact key _ h hb
/-- writes to any cell of several: what is known of none of them stays -/
theorem zDrop_s {f j j' b : Nat} {M' : Nat → Nat → Int32} (hE : ∀ e ∈ E, zGe X ρ n h e) {l : List Nat} (hb : b ∈ l) (hs : ∀ q i, zPl h q → (q = b * 128 + f → (i < j ∨ j' ≤ i)) → (q % 128 ≠ 127 → i = 0) → zM (h.1, h.2.1, h.2.2.1, M') q i = zM h q i) : ∀ e ∈ zDrop f j j' l E, zGe X ρ n (h.1, h.2.1, h.2.2.1, M') e := by
  have tr : ∀ (l : List Nat) (E : List zE) (h : aH), (∀ e ∈ E, zGe X ρ n h e) → ∀ e ∈ zDrop f j j' l E, zGe X ρ n h e := by
    intro l
    induction l with
    | nil => intro E h hE; exact hE
    | cons x r ih =>
      intro E h hE
      refine ih _ h ?_
      have := zTrim_s (p := x * 128 + f) (j := j) (j' := j') (M' := h.2.2.2) hE (fun q i _ _ _ => rfl)
      exact this
  induction l generalizing E with
  | nil => cases hb
  | cons x r ih =>
    rcases List.mem_cons.mp hb with rfl | hb
    · exact tr r _ _ (zTrim_s (p := b * 128 + f) hE hs)
    · refine ih ?_ hb
      have := zTrim_s (p := x * 128 + f) (j := j) (j' := j') (M' := h.2.2.2) hE (fun q i _ _ _ => rfl)
      exact this
theorem zDropW_s {f j j' b : Nat} {lo hi : Int} {M' : Nat → Nat → Int32} (hE : ∀ e ∈ E, zGe X ρ n h e) {l : List Nat} (hb : b ∈ l) (hs : ∀ q i, zPl h q → (q % 128 ≠ 127 → i = 0) → zM (h.1, h.2.1, h.2.2.1, M') q i = zM h q i ∨ (q = b * 128 + f ∧ lo ≤ (zM (h.1, h.2.1, h.2.2.1, M') q i).toInt ∧ (zM (h.1, h.2.1, h.2.2.1, M') q i).toInt ≤ hi ∧ j ≤ i ∧ i < j')) : ∀ e ∈ zDropW lo hi f j j' l E, zGe X ρ n (h.1, h.2.1, h.2.2.1, M') e := by
  have one : ∀ (x : Nat) (E : List zE) (h : aH), (∀ e ∈ E, zGe X ρ n h e) → ∀ e ∈ zWeak lo hi E (x * 128 + f) j j', zGe X ρ n h e := by
    intro x E h hE
    have := zWeak_s (p := x * 128 + f) (j := j) (j' := j') (lo := lo) (hi := hi) (M' := h.2.2.2) hE (fun q i _ _ => Or.inl rfl)
    exact this
  have tr : ∀ (l : List Nat) (E : List zE) (h : aH), (∀ e ∈ E, zGe X ρ n h e) → ∀ e ∈ zDropW lo hi f j j' l E, zGe X ρ n h e := by
    intro l
    induction l with
    | nil => intro E h hE; exact hE
    | cons x r ih =>
      intro E h hE
      exact ih _ h (one x E h hE)
  induction l generalizing E with
  | nil => cases hb
  | cons x r ih =>
    rcases List.mem_cons.mp hb with rfl | hb
    · exact tr r _ _ (zWeak_s (p := b * 128 + f) hE hs)
    · exact ih (one x E h hE) hb
theorem zNy2 {K' : zK} (hk : k n σ K' E ls st = true) (hg : zGa X P G pS h0 ρ0 ρ n σ K' E h') (hl : zGl P ρ n ls lsC) (hs : zGl P ρ n st stC) (hh : h.1 ≤ h'.1) (hC : C lsC stC h') : zNext X P G pS h0 ρ0 ρ n h k C :=
  ⟨n, σ, K', E, ls, st, ρ, h', lsC, stC, hk, Nat.le_refl n, fun _ _ => rfl, hg, hl, hs, hh, hC⟩
theorem zAt_set {l : List Nat} {f s j : Nat} (hj : zAt (l.set f s) j < 99999) : (j = f ∧ zAt (l.set f s) j = s) ∨ zAt (l.set f s) j = zAt l j := by
  induction l generalizing f j with
  | nil => exact Or.inr rfl
  | cons x r ih =>
    cases f with
    | zero =>
      cases j with
      | zero => exact Or.inl ⟨rfl, rfl⟩
      | succ j => exact Or.inr rfl
    | succ f =>
      cases j with
      | zero => exact Or.inr rfl
      | succ j =>
        have hj : zAt (r.set f s) j < 99999 := hj
        rcases ih hj with ⟨q1, q2⟩ | q
        · exact Or.inl ⟨by omega, q2⟩
        · exact Or.inr q
theorem zNoPs {s r : Nat} (hV : zVal P) (al : P.al = true) (hc : zGc P s r) : r = s := by
  rcases hc with ⟨_, e⟩ | ⟨-, -, e⟩ | ⟨_, e⟩
  · exact e
  · rw [(hV.2.2.2.2.1 al).1] at e
    cases e
  · exact e
theorem aSetR_k {M : Nat → aK} {a j b : Nat} {r : Option Nat} : (aSetR M a j r b).1 = (M b).1 ∧ (aSetR M a j r b).2.1 = (M b).2.1 := by
  unfold aSetR
  by_cases e : b = a
  · rw [if_pos e, e]
    exact ⟨rfl, rfl⟩
  · rw [if_neg e]
    exact ⟨rfl, rfl⟩
/-- a reference is written -/
theorem zGa.ref {a a' f s : Nat} {l : List Nat} {kd len : Nat} (hV : zVal P) (hg : zGa X P G pS h0 ρ0 ρ n σ K E h) (al : P.al = true) (ha : zGc P a' a) (h1 : a' < 700) (h2 : s < 700) (h3 : (zCe P K a').1 < 900) (hz : (zCe P K a').1 = kd ∧ (zCe P K a').2.1 = len ∧ (zCe P K a').2.2.1 = l ∨ False) :
    zGa X P G pS h0 ρ0 ρ n σ (K.1, K.2.1, (a', kd, len, l.set f s, 0) :: K.2.2) E (h.1, h.2.1, aSetR h.2.2.1 a f (some s), h.2.2.2) := by
  obtain ⟨g1, g2, g3, g4, g5, g6⟩ := hg
  rcases hz with ⟨z1, z2, z3⟩ | z
  · subst z1
    subst z2
    subst z3
    have ea := zGc_ex ha h1
    have hpl : ∀ p, zPl (h.1, h.2.1, aSetR h.2.2.1 a f (some s), h.2.2.2) p ↔ zPl h p := fun p => by
      unfold zPl
      dsimp only
      rw [(aSetR_k (M := h.2.2.1) (a := a) (j := f) (b := p / 128) (r := some s)).1]
    refine ⟨g1, ⟨g2.1, g2.2.1, fun s0 b hc hlt => ?_⟩, fun e he => ?_, fun p i hp hi => ?_, fun q => (by rw [al] at q; cases q), g6⟩
    · have eb := zNoPs hV al hc
      by_cases e : a' = s0
      · subst e
        have ecell : zCe P (K.1, K.2.1, (a', (zCe P K a').1, (zCe P K a').2.1, (zCe P K a').2.2.1.set f s, 0) :: K.2.2) a' = ((zCe P K a').1, (zCe P K a').2.1, (zCe P K a').2.2.1.set f s, 0) := by
          show zLk (_ :: K.2.2) a' (P.kT a') = _
          unfold zLk
          rw [Nat.beq_refl]
          rfl
        rw [ecell]
        have hb : b = a := eb.trans ea.symm
        subst hb
        obtain ⟨b1, b2, b3, b4, b5, b6⟩ := g2.2.2 a' b hc h3
        have hk := aSetR_k (M := h.2.2.1) (a := b) (j := f) (b := b) (r := some s)
        refine ⟨b1, b2, hk.1.trans b3, fun q => hk.2.trans (b4 q), fun j hj => ?_, fun q => absurd q (by show ¬ 700 ≤ 0; omega)⟩
        have hv : (aSetR h.2.2.1 b f (some s) b).2.2 j = if j = f then some s else (h.2.2.1 b).2.2 j := by
          unfold aSetR
          rw [if_pos rfl]
          rfl
        show ∃ r, (aSetR h.2.2.1 b f (some s) b).2.2 j = some r ∧ _
        rw [hv]
        by_cases q : j = f
        · rw [if_pos q]
          subst q
          have hlen : zAt ((zCe P K a').2.2.1.set j s) j = s ∨ zAt ((zCe P K a').2.2.1.set j s) j = 99999 := by
            have key : ∀ (l : List Nat) (f : Nat), zAt (l.set f s) f = s ∨ zAt (l.set f s) f = 99999 := by
              intro l
              induction l with
              | nil => intro f; exact Or.inr rfl
              | cons x r ih =>
                intro f
                cases f with
                | zero => exact Or.inl rfl
                | succ f => exact ih f
            exact key _ _
          have hj : zAt ((zCe P K a').2.2.1.set j s) j < 99999 := hj
          rcases hlen with hl | hl
          · exact ⟨s, rfl, Or.inl ⟨by show zAt ((zCe P K a').2.2.1.set j s) j < 700; omega, hl.symm⟩⟩
          · omega
        · rw [if_neg q]
          have hj : zAt ((zCe P K a').2.2.1.set f s) j < 99999 := hj
          rcases zAt_set hj with ⟨q1, -⟩ | q2
          · exact absurd q1 q
          · obtain ⟨r, r1, r2⟩ := b5 j (by omega)
            exact ⟨r, r1, by show zGc P (zAt ((zCe P K a').2.2.1.set f s) j) r; rw [q2]; exact r2⟩
      · have ecell : zCe P (K.1, K.2.1, (a', (zCe P K a').1, (zCe P K a').2.1, (zCe P K a').2.2.1.set f s, 0) :: K.2.2) s0 = zCe P K s0 := by
          show zLk (_ :: K.2.2) s0 (P.kT s0) = _
          unfold zLk
          have : Nat.beq a' s0 = false := by
            cases hb : Nat.beq a' s0
            · rfl
            · exact absurd (zbe hb) e
          rw [this]
          rfl
        rw [ecell] at hlt ⊢
        obtain ⟨b1, b2, b3, b4, b5, b6⟩ := g2.2.2 s0 b hc hlt
        have hne : b ≠ a := fun z => e (by rw [← ea, ← z, eb])
        have hv : aSetR h.2.2.1 a f (some s) b = h.2.2.1 b := by
          unfold aSetR
          rw [if_neg hne]
        refine ⟨b1, b2, ?_, ?_, ?_, ?_⟩
        · show (aSetR h.2.2.1 a f (some s) b).1 = _
          rw [hv]
          exact b3
        · show _ → (aSetR h.2.2.1 a f (some s) b).2.1 = _
          rw [hv]
          exact b4
        · show ∀ j, _ → ∃ r, (aSetR h.2.2.1 a f (some s) b).2.2 j = some r ∧ _
          rw [hv]
          exact b5
        · show _ → ∀ j, _ → ∃ r, (aSetR h.2.2.1 a f (some s) b).2.2 j = some r ∧ _
          rw [hv]
          exact b6
    · have h0 := g3 e he
      unfold zGe at h0 ⊢
      by_cases c1 : e.1 = 11520001
      · rw [if_pos c1] at h0 ⊢
        exact h0
      · rw [if_neg c1] at h0 ⊢
        by_cases c2 : e.1 = 11520002
        · rw [if_pos c2] at h0 ⊢
          exact h0
        · rw [if_neg c2] at h0 ⊢
          exact ⟨(hpl _).mpr h0.1, h0.2⟩
    · refine g4 p i ((hpl p).mp hp) (fun q => ?_)
      have := hi q
      dsimp only at this
      rwa [(aSetR_k (M := h.2.2.1) (a := a) (j := f) (b := p / 128) (r := some s)).2] at this
  · exact z.elim
theorem zPl_dm {q a f : Nat} (h1 : q / 128 = a) (h2 : q % 128 = f) : q = a * 128 + f := by omega
theorem zS_putf {c f t : Nat} (hV : zVal P) (hG : zHG P G) (hk : zPutf P c f t n σ K E ls st k = true) (hc : c < 100) (hg : zGa X P G pS h0 ρ0 ρ n σ K E h) (hl : zGl P ρ n ls lsC) (hs : zGl P ρ n st stC)
    (hC : ∀ (a : Nat) (x : Int32) q, stC = .int x :: .ref a :: q → a < h.1 → (h.2.2.1 a).1 = c → (t = 0 ∨ t = 1 ∧ (x = 0 ∨ x = 1)) → C lsC q (h.1, h.2.1, h.2.2.1, aPut h.2.2.2 a f x))
    (hR : ∀ (a r : Nat) q, stC = .ref r :: .ref a :: q → a < h.1 → (h.2.2.1 a).1 = c → t = 2 → r < h.1 → C lsC q (h.1, h.2.1, aSetR h.2.2.1 a f (some r), h.2.2.2)) : zNext X P G pS h0 ρ0 ρ n h k C := by
  match st, hk, hs with
  | [], hk, _ => cases hk
  | [_], hk, _ => cases hk
  | v :: w :: r, hk, hs =>
    obtain ⟨u, q0, rfl, h1, hs0⟩ := zGl_cons hs
    obtain ⟨u2, q, rfl, h2, hs1⟩ := zGl_cons hs0
    have hk : zRef w (fun a => zPutV P c f t a v n σ K E ls r k) = true := hk
    obtain ⟨a, rfl, hca, hk⟩ := zRef_s h2 hk
    unfold zPutV at hk
    rcases zCd hk with ⟨c1, hk⟩ | ⟨-, hk⟩
    · have c1 := zbe c1
      obtain ⟨b1, b2, b3, b4, b5, b6⟩ := hg.2.1.2.2 w.2.2.2 a hca (by omega)
      have hkd : (h.2.2.1 a).1 = c := b3.trans c1
      rcases zCd hk with ⟨c2, hk⟩ | ⟨c2, hk⟩
      · -- a reference
        unfold zPutR at hk
        rcases zCd hk with ⟨c3, hk⟩ | ⟨-, hk⟩
        · obtain ⟨d1, d2⟩ := zAnd c3
          obtain ⟨d0, d1⟩ := zAnd d1
          obtain ⟨d2, d3⟩ := zAnd d2
          obtain ⟨d3, d4⟩ := zAnd d3
          have d0 := zbe d0
          have d1 := zbl d1
          have d3 := zbt d3
          have d4 := zbt d4
          obtain ⟨s, rfl, hcs⟩ := zG_ref h1 (zbe c2)
          have hK1 : h.1 = K.1 := hg.2.1.1
          have es := zGc_ex hcs (by omega)
          have hC := hR a s q rfl b1 hkd d0 (by rw [es, hK1]; exact d4)
          rw [es] at hC
          exact zNy2 hk (zGa.ref hV hg d2 hca (by omega) (by omega) (by omega) (Or.inl ⟨rfl, rfl, rfl⟩)) hl hs1 (Nat.le_refl _) hC
        · cases hk
      · obtain ⟨x, rfl, hx⟩ := zG_rgi h1 hk
        obtain ⟨lo, hi, x1, x2, hk⟩ := zRg_s hg.1 hx hk
        unfold zPutN at hk
        rcases zCd hk with ⟨c3, hk⟩ | ⟨-, hk⟩
        · obtain ⟨c3, c4⟩ := zAnd c3
          have c3 := zbt c3
          have hx01 : t = 0 ∨ t = 1 ∧ (x = 0 ∨ x = 1) := by
            rcases zOr c4 with c4 | c4
            · exact Or.inl (zbe c4)
            · obtain ⟨c4, c5⟩ := zAnd c4
              obtain ⟨c5, c6⟩ := zAnd c5
              have c5 := zl c5
              have c6 := zl c6
              rw [z0_eq] at c5
              rw [z1_eq] at c6
              exact Or.inr ⟨zbe c4, z01 (by omega) (by omega)⟩
          have hC := hC a x q rfl b1 hkd hx01
          have hkd' : (h.2.2.1 a).1 < 100 := by omega
          have same : ∀ p i, zPl h p → (p = a * 128 + f → (i < 0 ∨ 1 ≤ i)) → (p % 128 ≠ 127 → i = 0) → zM (h.1, h.2.1, h.2.2.1, aPut h.2.2.2 a f x) p i = zM h p i := by
            intro p i hp hn hz
            refine zM_put (fun z => ?_)
            obtain ⟨z1, z2⟩ := z
            obtain ⟨-, -, hp3⟩ := hp
            by_cases c7 : p % 128 = 127
            · rw [if_pos c7, z1] at hp3
              omega
            · rw [if_neg c7] at z2
              have := hn (zPl_dm z1 z2)
              have := hz c7
              omega
          rcases zCd hk with ⟨c5, hk⟩ | ⟨c5, hk⟩
          · have c5 := zbt c5
            have ea := zGc_ex hca c5
            rw [← ea] at hk
            rcases zCd hk with ⟨c6, hk⟩ | ⟨-, hk⟩
            · obtain ⟨m1, m2, m3⟩ := zMay1_s c6
              have hp : zPl h (a * 128 + f) := zPlf c3 b1 b2 hkd'
              have hp' : zPl (h.1, h.2.1, h.2.2.1, aPut h.2.2.2 a f x) (a * 128 + f) := hp
              have g' : zGa X P G pS h0 ρ0 ρ n σ K ((a * 128 + f, 0, 1, v) :: zTrim E (a * 128 + f) 0 1) (h.1, h.2.1, h.2.2.1, aPut h.2.2.2 a f x) := by
                refine zGa.wr hV hG hg (fun e he => ?_) (zGI_put hg.2.2.2.1 (fun _ => ⟨by omega, by omega⟩) (fun z => by omega)) (zOff_putf hkd' m1) (zKp_putf hkd')
                rcases List.mem_cons.mp he with rfl | he
                · refine (zGe_pl hp').mpr (fun i q1 q2 q3 => ?_)
                  show zN ρ n 0 v (zM (h.1, h.2.1, h.2.2.1, aPut h.2.2.2 a f x) (a * 128 + f) i).toInt
                  rw [zMf c3]
                  have e : aPut h.2.2.2 a f x a f = x := by unfold aPut; rw [if_pos rfl, if_pos rfl]
                  show zN ρ n 0 v (aPut h.2.2.2 a f x a f).toInt
                  rw [e]
                  exact hx
                · exact zTrim_s hg.2.2.1 same e he
              exact zNy hk (Nat.le_refl _) (fun _ _ => rfl) g' hl hs1 (Nat.le_refl _) hC
            · cases hk
          · rcases zCd hk with ⟨c6, hk⟩ | ⟨-, hk⟩
            · have c5 : ¬ w.2.2.2 < 700 := by have := zbtF c5; omega
              obtain ⟨p1, p2, p3⟩ := zGc_ps hca c5 b2
              obtain ⟨m1, m2, m3⟩ := zMay1_s (zMem_s c6 p3)
              have g' : zGa X P G pS h0 ρ0 ρ n σ K (zDrop f 0 1 (P.ps w.2.2.2) E) (h.1, h.2.1, h.2.2.1, aPut h.2.2.2 a f x) :=
                zGa.wr hV hG hg (zDrop_s hg.2.2.1 p3 same) (zGI_put hg.2.2.2.1 (fun _ => ⟨by omega, by omega⟩) (fun z => by omega)) (zOff_putf hkd' m1) (zKp_putf hkd')
              exact zNy hk (Nat.le_refl _) (fun _ _ => rfl) g' hl hs1 (Nat.le_refl _) hC
            · cases hk
        · cases hk
    · cases hk
end ZIN
