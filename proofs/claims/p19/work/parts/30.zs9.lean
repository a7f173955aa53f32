/-! what is known against what is asked -/
def zGp (ρ : Nat → Int) (n : Nat) (h : aH) (e : zE) : Prop := zPl h e.1 ∧ ∀ i, e.2.1 ≤ i → i < e.2.2.1 → (e.1 % 128 ≠ 127 → i = 0) → zN ρ n 0 e.2.2.2 (zM h e.1 i).toInt
/-- values of the asked one's symbols, and their numbers -/
def zTh (ρ : Nat → Int) (n : Nat) (th : List zV) (r : Nat → Int) : Prop := ∀ i v, th[i]? = some v → (v.1 = 0 ∨ v.1 = 2) ∧ zN ρ n v.1 v (r i)
section ZFI
variable {X : aX} {P : zP} {G : aH → Prop} {pS : Nat} {h0 h h' : aH} {ρ0 ρ ρ' : Nat → Int} {n n' : Nat} {σ : zS} {K : zK} {E E' : List zE} {v u : zV} {x : Value} {th : List zV} {r : Nat → Int}
theorem zGp_e {e : zE} (k : zGp ρ n h e) : zGe X ρ n h e := (zGe_pl k.1).mpr k.2
theorem zThN_at {j : Nat} : (∃ v, th[j]? = some v ∧ zThN th j = v) ∨ (th.length ≤ j ∧ zThN th j = (8, z0, z0, 0)) := by
  induction th generalizing j with
  | nil => exact Or.inr ⟨Nat.zero_le _, rfl⟩
  | cons a q ih =>
    cases j with
    | zero => exact Or.inl ⟨a, rfl, rfl⟩
    | succ j =>
      rcases ih (j := j) with ⟨v, h1, h2⟩ | ⟨h1, h2⟩
      · exact Or.inl ⟨v, h1, h2⟩
      · exact Or.inr ⟨by rw [List.length_cons]; omega, h2⟩
/-- a number of the asked value, of the value in the known one's symbols -/
theorem zSub_n {w : Nat} {Z : Int} (hth : zTh ρ n th r) (hw : w = 0 ∨ w = 2) (ht : (zSubst th u).1 = w ∨ (zSubst th u).1 = w + 1) : zN r th.length w u Z ↔ zN ρ n w (zSubst th u) Z := by
  unfold zSubst at ht ⊢
  cases c : (Nat.beq u.1 0 || Nat.beq u.1 2)
  · rw [c] at ht
    have ht : u.1 = w ∨ u.1 = w + 1 := ht
    obtain ⟨c1, c2⟩ := zOrF c
    have c1 := zbn c1
    have c2 := zbn c2
    constructor
    · rintro (⟨h1, -⟩ | h1)
      · omega
      · exact Or.inr h1
    · rintro (⟨h1, -⟩ | h1)
      · have h1 : u.1 = w := h1
        omega
      · exact Or.inr h1
  · rw [c] at ht
    have hu : u.1 = 0 ∨ u.1 = 2 := by
      rcases zOr c with c | c
      · exact Or.inl (zbe c)
      · exact Or.inr (zbe c)
    cases c2 : zeq u.2.2.1 z0
    · rw [c2] at ht
      have c2 := zeF c2
      rw [z0_eq] at c2
      have ht : (zSubA u (zThN th u.2.2.2)).1 = w ∨ (zSubA u (zThN th u.2.2.2)).1 = w + 1 := ht
      show zN r th.length w u Z ↔ zN ρ n w (zSubA u (zThN th u.2.2.2)) Z
      rcases zThN_at (th := th) (j := u.2.2.2) with ⟨v, h1, h2⟩ | ⟨h1, h2⟩
      · rw [h2] at ht ⊢
        obtain ⟨hv, hn⟩ := hth _ _ h1
        have hlt : u.2.2.2 < th.length := (List.getElem?_eq_some_iff.mp h1).1
        have hr : r u.2.2.2 = v.2.1 + v.2.2.1 * ρ v.2.2.2 := by
          rcases hn with ⟨-, -, e⟩ | ⟨e, -⟩
          · exact e
          · omega
        have hvs : v.2.2.1 = 0 ∨ v.2.2.2 < n := by
          rcases hn with ⟨-, e, -⟩ | ⟨e, -⟩
          · exact e
          · omega
        unfold zSubA at ht ⊢
        have c3 : (Nat.beq v.1 0 || Nat.beq v.1 2) = true := by rcases hv with e | e <;> rw [e] <;> rfl
        rw [c3] at ht ⊢
        have ht : (zAff u.1 (u.2.1 + u.2.2.1 * v.2.1) (u.2.2.1 * v.2.2.1) v.2.2.2).1 = w ∨ (zAff u.1 (u.2.1 + u.2.2.1 * v.2.1) (u.2.2.1 * v.2.2.1) v.2.2.2).1 = w + 1 := ht
        have et : (zAff u.1 (u.2.1 + u.2.2.1 * v.2.1) (u.2.2.1 * v.2.2.1) v.2.2.2).1 = u.1 := by
          unfold zAff
          cases zeq (u.2.2.1 * v.2.2.1) z0 <;> rfl
        rw [et] at ht
        have huw : u.1 = w := by omega
        have key : u.2.1 + u.2.2.1 * r u.2.2.2 = (u.2.1 + u.2.2.1 * v.2.1) + (u.2.2.1 * v.2.2.1) * ρ v.2.2.2 := by
          rw [hr, Int.mul_add, Int.mul_assoc]
          omega
        show zN r th.length w u Z ↔ zN ρ n w (zAff u.1 (u.2.1 + u.2.2.1 * v.2.1) (u.2.2.1 * v.2.2.1) v.2.2.2) Z
        constructor
        · rintro (⟨-, -, h5⟩ | ⟨h5, -⟩)
          · rw [huw]
            refine zAff_s ?_ (by rw [h5, key])
            rcases hvs with e | e
            · exact Or.inl (by rw [e]; simp)
            · exact Or.inr e
          · omega
        · intro h5
          refine Or.inl ⟨huw, Or.inr hlt, ?_⟩
          rw [key]
          rw [huw] at h5
          unfold zAff at h5
          cases c4 : zeq (u.2.2.1 * v.2.2.1) z0
          · rw [c4] at h5
            rcases h5 with ⟨-, -, e⟩ | ⟨e, -⟩
            · exact e
            · have e : w = w + 1 := e
              omega
          · rw [c4] at h5
            have c4 := ze c4
            rw [z0_eq] at c4
            rcases h5 with ⟨-, -, e⟩ | ⟨e, -⟩
            · have e : Z = (u.2.1 + u.2.2.1 * v.2.1) + z0 * ρ 0 := e
              rw [c4, e, z0_eq]
              simp
            · have e : w = w + 1 := e
              omega
      · rw [h2] at ht
        have : (zSubA u (8, z0, z0, 0)).1 = 8 := rfl
        omega
    · have c2 := ze c2
      rw [z0_eq] at c2
      constructor
      · rintro (⟨h1, -, h5⟩ | h1)
        · exact Or.inl ⟨h1, Or.inl c2, by show Z = u.2.1 + u.2.2.1 * ρ u.2.2.2; rw [h5, c2]; simp⟩
        · exact Or.inr h1
      · rintro (⟨h1, -, h5⟩ | h1)
        · have h5 : Z = u.2.1 + u.2.2.1 * ρ u.2.2.2 := h5
          exact Or.inl ⟨h1, Or.inl c2, by rw [h5, c2]; simp⟩
        · exact Or.inr h1
theorem zSubst_t (h : ¬ (u.1 = 0 ∨ u.1 = 2)) : zSubst th u = u := by
  unfold zSubst
  have c : (Nat.beq u.1 0 || Nat.beq u.1 2) = false := by
    cases c : (Nat.beq u.1 0 || Nat.beq u.1 2)
    · rfl
    · rcases zOr c with c | c
      · exact absurd (Or.inl (zbe c)) h
      · exact absurd (Or.inr (zbe c)) h
  rw [c]
  rfl
theorem zSubst_1 : (zSubst th u).1 = u.1 ∨ (zSubst th u).1 = 8 := by
  by_cases q : u.1 = 0 ∨ u.1 = 2
  · unfold zSubst
    cases (Nat.beq u.1 0 || Nat.beq u.1 2)
    · exact Or.inl rfl
    · cases zeq u.2.2.1 z0
      · show (zSubA u (zThN th u.2.2.2)).1 = u.1 ∨ _
        unfold zSubA
        cases (Nat.beq (zThN th u.2.2.2).1 0 || Nat.beq (zThN th u.2.2.2).1 2)
        · exact Or.inr rfl
        · left
          show (zAff _ _ _ _).1 = _
          unfold zAff
          cases zeq (u.2.2.1 * (zThN th u.2.2.2).2.2.1) z0 <;> rfl
      · exact Or.inl rfl
  · rw [zSubst_t q]
    exact Or.inl rfl
theorem zIn1_s {a : Nat} {l : List Nat} (h : zIn1 a l = true) : a ∈ l := by
  induction l with
  | nil => cases h
  | cons b r ih =>
    rcases zOr h with h | h
    · rw [zbe h]
      exact List.mem_cons_self
    · exact List.mem_cons_of_mem _ (ih h)
/-- of a number -/
theorem zFitN_s {w : Nat} {Z : Int} (hs : zSok ρ n σ) (hw : w = 0 ∨ w = 2) (hv : zN ρ n w v Z) (h : (bif Nat.beq u.1 w then zFitA w σ v u else zFitR w σ v u) = true) (ht : u.1 = w ∨ u.1 = w + 1) (hsym : u.1 = w → u.2.2.1 = 0 ∨ u.2.2.2 < n ∨ zSyn v u = true ∨ True) : zN ρ n w u Z := by
  rcases zCd h with ⟨c, h⟩ | ⟨c, h⟩
  · have c := zbe c
    unfold zFitA at h
    rcases zCd h with ⟨d, -⟩ | ⟨-, h⟩
    · unfold zSyn at d
      obtain ⟨d1, d2⟩ := zAnd d
      obtain ⟨d2, d3⟩ := zAnd d2
      obtain ⟨d3, d4⟩ := zAnd d3
      have d1 := zbe d1
      have d2 := ze d2
      have d3 := ze d3
      rcases hv with ⟨e1, e2, e3⟩ | ⟨e1, -⟩
      · refine Or.inl ⟨c, ?_, ?_⟩
        · rcases zOr d4 with d4 | d4
          · exact Or.inl ((ze d4).trans z0_eq)
          · rw [← d3, ← zbe d4]
            exact e2
        · rcases zOr d4 with d4 | d4
          · have d4 := (ze d4).trans z0_eq
            rw [e3, d2, d3, d4]
            simp
          · rw [e3, d2, d3, zbe d4]
      · omega
    · unfold zRg2 at h
      obtain ⟨lo, hi, h1, h2, h⟩ := zRg_s hs hv h
      -- the bounds of u
      have key : ∀ k : Int → Int → Bool, zRg w σ u k = true → ∃ lo' hi', k lo' hi' = true ∧ (lo' = hi' → zN ρ n w u lo') := by
        intro k hk
        unfold zRg at hk
        rw [c, Nat.beq_refl] at hk
        have hk : zRgA σ u k = true := hk
        unfold zRgA at hk
        rcases zCd hk with ⟨d, hk⟩ | ⟨d, hk⟩
        · exact ⟨_, _, hk, fun _ => Or.inl ⟨c, Or.inl ((ze d).trans z0_eq), by rw [ze d, z0_eq]; simp⟩⟩
        · rcases zCd hk with ⟨d2, hk⟩ | ⟨d2, hk⟩
          · obtain ⟨l, m, q1, q2, q3, hk⟩ := zSy_s hs hk
            refine ⟨_, _, hk, fun e => Or.inl ⟨c, Or.inr q1, ?_⟩⟩
            rw [ze d2, z1_eq]
            omega
          · obtain ⟨l, m, q1, q2, q3, hk⟩ := zSy_s hs hk
            unfold zAfR at hk
            have d := zeF d
            rw [z0_eq] at d
            rcases zCd hk with ⟨d3, hk⟩ | ⟨d3, hk⟩
            · refine ⟨_, _, hk, fun e => Or.inl ⟨c, Or.inr q1, ?_⟩⟩
              have e2 : u.2.2.1 * l = u.2.2.1 * m := by omega
              have e3 := Int.eq_of_mul_eq_mul_left d e2
              rw [show ρ u.2.2.2 = l by omega]
            · refine ⟨_, _, hk, fun e => Or.inl ⟨c, Or.inr q1, ?_⟩⟩
              have e2 : u.2.2.1 * m = u.2.2.1 * l := by omega
              have e3 := Int.eq_of_mul_eq_mul_left d e2
              rw [show ρ u.2.2.2 = m by omega]
      obtain ⟨lo', hi', h, hu⟩ := key _ h
      obtain ⟨f1, f2⟩ := zAnd h
      obtain ⟨f2, f3⟩ := zAnd f2
      have f1 := ze f1
      have f2 := ze f2
      have f3 := ze f3
      rw [show Z = lo' by omega]
      exact hu f2
  · have c := zbn c
    unfold zFitR at h
    obtain ⟨lo, hi, h1, h2, h⟩ := zRg_s hs hv h
    obtain ⟨f1, f2⟩ := zAnd h
    have f1 := zl f1
    have f2 := zl f2
    exact Or.inr ⟨by omega, by omega, by omega⟩
theorem zFits_s (hV : zVal P) (hs : zSok ρ n σ) (hx : zG P ρ n v x) (h : zFits P σ v u = true) : zG P ρ n u x := by
  unfold zFits at h
  rcases zCd h with ⟨c, h⟩ | ⟨c, h⟩
  · have c := zbl c
    rcases zCd h with ⟨c2, h⟩ | ⟨c2, h⟩
    · have c2 := zbl c2
      have ht : v.1 = 0 ∨ v.1 = 1 := by
        rcases zCd h with ⟨c3, h⟩ | ⟨c3, h⟩
        · unfold zFitA at h
          rcases zCd h with ⟨d, -⟩ | ⟨-, h⟩
          · have d1 := zbe (zAnd d).1
            have := zbe c3
            omega
          · exact (zRg2_tag h).1
        · exact (zRg_tag h).1
      obtain ⟨z, rfl, hz⟩ := zG_int hx ht
      exact zGi (zFitN_s hs (Or.inl rfl) hz h (by omega) (fun _ => Or.inr (Or.inr (Or.inr trivial))))
    · have c2 := zblF c2
      have h : (bif Nat.beq u.1 2 then zFitA 2 σ v u else zFitR 2 σ v u) = true := h
      have ht : v.1 = 2 ∨ v.1 = 3 := by
        rcases zCd h with ⟨c3, h⟩ | ⟨c3, h⟩
        · unfold zFitA at h
          rcases zCd h with ⟨d, -⟩ | ⟨-, h⟩
          · have d1 := zbe (zAnd d).1
            have := zbe c3
            omega
          · exact (zRg2_tag h).1
        · exact (zRg_tag h).1
      obtain ⟨z, rfl, hz⟩ := zG_long hx ht
      exact zGj (zFitN_s hs (Or.inr rfl) hz h (by omega) (fun _ => Or.inr (Or.inr (Or.inr trivial))))
  · rcases zCd h with ⟨c2, h⟩ | ⟨c2, h⟩
    · have c2 := zbe c2
      unfold zFitC at h
      obtain ⟨h1, h2⟩ := zAnd h
      obtain ⟨q, rfl, hq⟩ := zG_ref hx (zbe h1)
      refine Or.inr (Or.inr (Or.inl ⟨c2, q, rfl, ?_⟩))
      rcases zOr h2 with h2 | h2
      · rw [← zbe h2]
        exact hq
      · have hm := zIn1_s h2
        by_cases c3 : 700 ≤ u.2.2.2 ∧ u.2.2.2 < 1000
        · have hlt := (hV.2.1 _ _ 0 c3.1 c3.2 hm (by omega)).1
          rw [zGc_ex hq hlt]
          exact Or.inr (Or.inl ⟨c3.1, c3.2, hm⟩)
        · exact absurd hm (by
            intro hm
            exact c3 (hV.2.2.2.2.2 _ _ hm))
    · rcases zCd h with ⟨c3, h⟩ | ⟨c3, h⟩
      · have c3 := zbe c3
        have h := zbe h
        rcases hx with ⟨h1, -⟩ | ⟨h1, -⟩ | ⟨h1, -⟩ | ⟨-, h1⟩ | h1
        · omega
        · omega
        · omega
        · exact Or.inr (Or.inr (Or.inr (Or.inl ⟨c3, h1⟩)))
        · omega
      · exact Or.inr (Or.inr (Or.inr (Or.inr (zbe h))))
/-- what fits in the known one's symbols is so in the asked one's -/
theorem zG_un (hth : zTh ρ n th r) (h : zG P ρ n (zSubst th u) x) : zG P r th.length u x := by
  rcases h with ⟨h1, z, rfl, hz⟩ | ⟨h1, z, rfl, hz⟩ | h
  · exact zGi ((zSub_n hth (Or.inl rfl) (by omega)).mpr hz)
  · exact zGj ((zSub_n hth (Or.inr rfl) (by omega)).mpr hz)
  · have e : u.1 ≠ 0 ∧ u.1 ≠ 2 := by
      have h4 : (zSubst th u).1 ≠ 8 ∧ (zSubst th u).1 ≠ 0 ∧ (zSubst th u).1 ≠ 2 := by
        rcases h with ⟨h1, -⟩ | ⟨h1, -⟩ | h1 <;> omega
      rcases zSubst_1 (th := th) (u := u) with e | e <;> omega
    rw [zSubst_t (by omega)] at h
    exact Or.inr (Or.inr h)
theorem zG_do (hth : zTh ρ n th r) (hm : ∀ w, zN r th.length w u 0 ∨ True) (h : zG P r th.length u x) : zG P ρ n (zSubst th u) x := by
  have tag : ∀ w Z, (w = 0 ∨ w = 2) → zN r th.length w u Z → (zSubst th u).1 = w ∨ (zSubst th u).1 = w + 1 := by
    intro w Z hw hz
    rcases hz with ⟨e1, e2, e3⟩ | ⟨e1, -⟩
    · unfold zSubst
      have c : (Nat.beq u.1 0 || Nat.beq u.1 2) = true := by rcases hw with e | e <;> rw [e1, e] <;> rfl
      rw [c]
      cases c2 : zeq u.2.2.1 z0
      · have c2 := zeF c2
        rw [z0_eq] at c2
        show (zSubA u (zThN th u.2.2.2)).1 = w ∨ _
        rcases zThN_at (th := th) (j := u.2.2.2) with ⟨v, q1, q2⟩ | ⟨q1, q2⟩
        · rw [q2]
          obtain ⟨hv, -⟩ := hth _ _ q1
          unfold zSubA
          have c3 : (Nat.beq v.1 0 || Nat.beq v.1 2) = true := by rcases hv with e | e <;> rw [e] <;> rfl
          rw [c3]
          left
          show (zAff _ _ _ _).1 = _
          unfold zAff
          cases zeq (u.2.2.1 * v.2.2.1) z0 <;> exact e1
        · rcases e2 with e2 | e2 <;> omega
      · exact Or.inl e1
    · rw [zSubst_t (by omega)]
      exact Or.inr e1
  rcases h with ⟨h1, z, rfl, hz⟩ | ⟨h1, z, rfl, hz⟩ | h
  · exact zGi ((zSub_n hth (Or.inl rfl) (tag 0 _ (Or.inl rfl) hz)).mp hz)
  · exact zGj ((zSub_n hth (Or.inr rfl) (tag 2 _ (Or.inr rfl) hz)).mp hz)
  · have e : ¬ (u.1 = 0 ∨ u.1 = 2) := by
      rcases h with ⟨h1, -⟩ | ⟨h1, -⟩ | h1 <;> omega
    rw [zSubst_t e]
    exact Or.inr (Or.inr h)
end ZFI
