/-! while a law is read the reference's laws stay: what is written lies behind them -/
def kp7 (M N : pMem) : Prop := (∀ a j, (a = 205 ∨ a = 206 ∨ a = 207 ∨ a = 208) → j < 64 → N a j = M a j) ∧ ∀ a j, (a = 210 ∨ a = 211) → j < 2000 → N a j = M a j
def Iq (M N : pMem) : Prop := (0 ≤ (M 188 38).toInt ∧ (M 188 38).toInt ≤ 500) → (0 ≤ (N 188 38).toInt ∧ (N 188 38).toInt ≤ 500) ∧ kp7 M N
theorem Iq_r {M : pMem} : Iq M M := fun h => ⟨h, fun _ _ _ _ => rfl, fun _ _ _ _ => rfl⟩
theorem Iq_t {M N K : pMem} (h : Iq M N) (g : Iq N K) : Iq M K := fun q => by
  obtain ⟨h1, h2, h3⟩ := h q
  obtain ⟨g1, g2, g3⟩ := g h1
  exact ⟨g1, fun a j q1 q2 => (g2 a j q1 q2).trans (h2 a j q1 q2), fun a j q1 q2 => (g3 a j q1 q2).trans (h3 a j q1 q2)⟩
def kQ (L : List (Nat × Nat)) : Bool := pOut L 188 38 && ((pNo L 205 && (pNo L 206 && (pNo L 207 && pNo L 208))) && (pNo L 210 && pNo L 211))
theorem Iq_fr {L : List (Nat × Nat)} {M N : pMem} (f : pFr L M N) (k : kQ L = true) : Iq M N := by
  unfold kQ at k
  simp only [Bool.and_eq_true] at k
  obtain ⟨k1, ⟨k2, k3, k4, k5⟩, k6, k7⟩ := k
  refine fun h => ⟨by rw [f 188 38 (by decide) rfl k1]; exact h, fun a j q _ => ?_, fun a j q _ => ?_⟩
  · rcases q with rfl | rfl | rfl | rfl
    · exact f 205 j (by decide) rfl (pNo_out k2 j)
    · exact f 206 j (by decide) rfl (pNo_out k3 j)
    · exact f 207 j (by decide) rfl (pNo_out k4 j)
    · exact f 208 j (by decide) rfl (pNo_out k5 j)
  · rcases q with rfl | rfl
    · exact f 210 j (by decide) rfl (pNo_out k6 j)
    · exact f 211 j (by decide) rfl (pNo_out k7 j)
def pTi {α : Type} (M0 : pMem) (T : pT α) : Prop := ∀ v N, T v N → Iq M0 N
section TI
variable {α β : Type} {M0 M : pMem} {A B : pT α} {c : Prop} {a j : Nat} {x : Int32}
theorem ti_ret {y : α} (f : Iq M0 M) : pTi M0 (tRet y M) := fun v N h => by
  obtain ⟨_, rfl⟩ := h
  exact f
theorem ti_gd (k : pTi M0 A) : pTi M0 (tGd c A) := fun v N h => k v N h.2
theorem ti_if (k1 : pTi M0 A) (k2 : pTi M0 B) : pTi M0 (tIf c A B) := fun v N h => h.elim (fun q => k1 v N q.2) (fun q => k2 v N q.2)
theorem ti_put {C : pMem → pT α} (h1 : (Nat.blt a 205 || Nat.blt 211 a) = true) (h2 : (Nat.beq a 188 && Nat.beq j 38) = false) (f : Iq M0 M) (k : ∀ M1, Iq M0 M1 → pTi M0 (C M1)) : pTi M0 (tPut (aPut M a j x) C) := fun v N h => by
  obtain ⟨M1, e, h⟩ := h
  have r : a < 205 ∨ 211 < a := by
    rcases Bool.or_eq_true _ _ ▸ h1 with q | q
    · exact Or.inl (Nat.le_of_ble_eq_true q)
    · exact Or.inr (Nat.le_of_ble_eq_true q)
  refine k M1 (Iq_t f fun q => ⟨?_, fun b i hb _ => by rw [e, aPut_cell (by omega)], fun b i hb _ => by rw [e, aPut_cell (by omega)]⟩) v N h
  by_cases ea : 188 = a
  · by_cases ej : 38 = j
    · rw [← ea, ← ej] at h2
      exact absurd h2 (by decide)
    · rw [e, aPut_at ej]; exact q
  · rw [e, aPut_cell ea]; exact q
theorem ti_put5 {C : pMem → pT α} (h1 : 205 ≤ a ∧ a ≤ 208) (h2 : 64 ≤ j) (f : Iq M0 M) (k : ∀ M1, Iq M0 M1 → pTi M0 (C M1)) : pTi M0 (tPut (aPut M a j x) C) := fun v N h => by
  obtain ⟨M1, e, h⟩ := h
  refine k M1 (Iq_t f fun q => ⟨by rw [e, aPut_cell (by omega)]; exact q, fun b i _ hi => by rw [e, aPut_at (by omega)], fun b i hb _ => by rw [e, aPut_cell (by omega)]⟩) v N h
theorem ti_call {D : pT β} {K : β → pMem → pT α} (d : ∀ v N, D v N → Iq M N) (f : Iq M0 M) (k : ∀ v N, Iq M0 N → pTi M0 (K v N)) : pTi M0 (tCall D K) := fun v N h => by
  obtain ⟨w, M1, h1, h2⟩ := h
  exact k w M1 (Iq_t f (d w M1 h1)) v N h2
theorem ti_tail (d : ∀ v N, A v N → Iq M N) (f : Iq M0 M) : pTi M0 A := fun v N h => Iq_t f (d v N h)
end TI
section RI
variable {M N : pMem} {p1 p2 v : Int32} {u : Unit}
theorem D_69_i (h : D_69 p1 p2 M u N) : Iq M N := fun h0 => by
  obtain ⟨g, M1, e1, _, M2, e2, M3, e3, _, hN⟩ := h
  have hl : (M 188 38).toInt < 500 := by
    obtain ⟨g1, g2⟩ := g
    have rg := i_rg (M 188 38)
    by_cases c : (M 188 38).toInt ≤ 2147481647
    · rw [i_add (by rw [kI_toInt (by decide) (by decide)]; omega) (by rw [kI_toInt (by decide) (by decide)]; omega), kI_toInt (by decide) (by decide)] at g2
      omega
    · exfalso
      have e : (kI 2000 + M 188 38).toInt = (M 188 38).toInt + 2000 - 4294967296 := by
        have q : kI 2000 + M 188 38 = Int32.ofInt (2000 + (M 188 38).toInt) := by rw [Int32.ofInt_add, Int32.ofInt_toInt]
        rw [q, Int32.toInt_ofInt, Int.bmod_def, show Int32.size = 4294967296 from rfl]
        omega
      rw [e] at g1
      omega
  obtain ⟨n, hn⟩ : ∃ n : Nat, (M 188 38).toInt = n := ⟨(M 188 38).toInt.toNat, by omega⟩
  have i1 : ix (kI 2000 + M 188 38) = 2000 + n := ix_of (by rw [i_add (by rw [kI_toInt (by decide) (by decide)]; omega) (by rw [kI_toInt (by decide) (by decide)]; omega), kI_toInt (by decide) (by decide), hn]; omega)
  have q1 : M1 188 38 = M 188 38 := by rw [e1, aPut_cell (by decide)]
  rw [q1, i1] at e2
  rw [i1] at e1
  rw [hN]
  refine ⟨?_, fun a j q hj => ?_, fun a j q hj => ?_⟩
  · rw [e3, aPut_same, e2, aPut_cell (by decide), q1, i_add1 (by omega)]
    omega
  · rw [e3, aPut_cell (by omega), e2, aPut_cell (by omega), e1, aPut_cell (by omega)]
  · rw [e3, aPut_cell (by omega), e2, aPut_at (by omega), e1, aPut_at (by omega)]
theorem D_70_i (h : D_70 M v N) : Iq M N := by
  have r : Iq M M := Iq_r
  have t : pTi M (D_70 M) := by
    unfold D_70
    repeat' first
      | exact ti_ret (by assumption)
      | refine ti_if ?_ ?_
      | refine ti_call (fun _ _ h => D_69_i h) (by assumption) (fun _ _ _ => ?_)
      | refine ti_call (fun _ _ h => Iq_fr (F_65 h) (by decide +kernel)) (by assumption) (fun _ _ _ => ?_)
      | refine ti_call (fun _ _ h => Iq_fr (F_66 h) (by decide +kernel)) (by assumption) (fun _ _ _ => ?_)
  exact t v N h
theorem S_71_i {P2 : pMem → pT Int32} (hP : ∀ M v N, P2 M v N → Iq M N) (h : S_71_2 P2 M v N) : Iq M N := by
  have r : Iq M M := Iq_r
  have t : pTi M (S_71_2 P2 M) := by
    unfold S_71_2
    repeat' first
      | exact ti_ret (by assumption)
      | refine ti_if ?_ ?_
      | refine ti_call (fun _ _ h => D_69_i h) (by assumption) (fun _ _ _ => ?_)
      | refine ti_call (fun _ _ h => D_70_i h) (by assumption) (fun _ _ _ => ?_)
      | refine ti_call (fun _ _ h => Iq_fr (F_65 h) (by decide +kernel)) (by assumption) (fun _ _ _ => ?_)
      | refine ti_call (fun _ _ h => Iq_fr (F_66 h) (by decide +kernel)) (by assumption) (fun _ _ _ => ?_)
      | exact ti_tail (fun _ _ h => hP _ _ _ h) (by assumption)
  exact t v N h
theorem L_71_i (h : L_71_2 M v N) : Iq M N := h (fun M _ N => Iq M N) (fun _ _ _ hs => S_71_i (fun _ _ _ h => h) hs)
theorem D_71_i (h : D_71 M v N) : Iq M N := by
  have r : Iq M M := Iq_r
  have t : pTi M (D_71 M) := by
    unfold D_71
    repeat' first
      | exact ti_ret (by assumption)
      | refine ti_if ?_ ?_
      | refine ti_call (fun _ _ h => D_70_i h) (by assumption) (fun _ _ _ => ?_)
      | exact ti_tail (fun _ _ h => L_71_i h) (by assumption)
  exact t v N h
theorem S_72_i {P2 : pMem → pT Int32} (hP : ∀ M v N, P2 M v N → Iq M N) (h : S_72_2 P2 M v N) : Iq M N := by
  have r : Iq M M := Iq_r
  have t : pTi M (S_72_2 P2 M) := by
    unfold S_72_2
    repeat' first
      | exact ti_ret (by assumption)
      | refine ti_if ?_ ?_
      | refine ti_call (fun _ _ h => D_69_i h) (by assumption) (fun _ _ _ => ?_)
      | refine ti_call (fun _ _ h => D_71_i h) (by assumption) (fun _ _ _ => ?_)
      | refine ti_call (fun _ _ h => Iq_fr (F_65 h) (by decide +kernel)) (by assumption) (fun _ _ _ => ?_)
      | exact ti_tail (fun _ _ h => hP _ _ _ h) (by assumption)
  exact t v N h
theorem L_72_i (h : L_72_2 M v N) : Iq M N := h (fun M _ N => Iq M N) (fun _ _ _ hs => S_72_i (fun _ _ _ h => h) hs)
theorem D_72_i (h : D_72 M v N) : Iq M N := by
  have r : Iq M M := Iq_r
  have t : pTi M (D_72 M) := by
    unfold D_72
    repeat' first
      | exact ti_ret (by assumption)
      | refine ti_if ?_ ?_
      | refine ti_call (fun _ _ h => D_71_i h) (by assumption) (fun _ _ _ => ?_)
      | exact ti_tail (fun _ _ h => L_72_i h) (by assumption)
  exact t v N h
theorem D_73_i (h : D_73 M v N) : Iq M N := by
  have r : Iq M M := Iq_r
  have t : pTi M (D_73 M) := by
    unfold D_73
    repeat' first
      | exact ti_ret (by assumption)
      | refine ti_if ?_ ?_
      | refine ti_call (fun _ _ h => D_72_i h) (by assumption) (fun _ _ _ => ?_)
      | refine ti_call (fun _ _ h => D_69_i h) (by assumption) (fun _ _ _ => ?_)
      | refine ti_call (fun _ _ h => Iq_fr (F_65 h) (by decide +kernel)) (by assumption) (fun _ _ _ => ?_)
      | refine ti_call (fun _ _ h => Iq_fr (F_66 h) (by decide +kernel)) (by assumption) (fun _ _ _ => ?_)
  exact t v N h
theorem S_75_i {P0 : pMem → pT Unit} (hP : ∀ M v N, P0 M v N → Iq M N) (h : S_75_0 p1 P0 M u N) : Iq M N := by
  have r : Iq M M := Iq_r
  have t : pTi M (S_75_0 p1 P0 M) := by
    unfold S_75_0
    repeat' first
      | exact ti_ret (by assumption)
      | refine ti_if ?_ ?_
      | refine ti_gd ?_
      | refine ti_put (by decide) (by decide) (by assumption) (fun _ _ => ?_)
      | refine ti_call (fun _ _ h => D_69_i h) (by assumption) (fun _ _ _ => ?_)
      | exact ti_tail (fun _ _ h => hP _ _ _ h) (by assumption)
  exact t u N h
theorem L_75_i (h : L_75_0 p1 M u N) : Iq M N := h (fun M _ N => Iq M N) (fun _ _ _ hs => S_75_i (fun _ _ _ h => h) hs)
theorem D_75_i (h : D_75 p1 M u N) : Iq M N := by
  have r : Iq M M := Iq_r
  have t : pTi M (D_75 p1 M) := by
    unfold D_75
    repeat' first
      | exact ti_ret (by assumption)
      | refine ti_if ?_ ?_
      | refine ti_gd ?_
      | refine ti_put (by decide) (by decide) (by assumption) (fun _ _ => ?_)
      | refine ti_call (fun _ _ h => D_69_i h) (by assumption) (fun _ _ _ => ?_)
      | exact ti_tail (fun _ _ h => L_75_i h) (by assumption)
  exact t u N h
theorem S_76_i {P1 : Int32 → Int32 → pMem → pT Int32} (hP : ∀ x y M v N, P1 x y M v N → Iq M N) {x1 x2 : Int32} (h : S_76_1 P1 x1 x2 M v N) : Iq M N := by
  have r : Iq M M := Iq_r
  have t : pTi M (S_76_1 P1 x1 x2 M) := by
    unfold S_76_1
    repeat' first
      | exact ti_ret (by assumption)
      | refine ti_if ?_ ?_
      | refine ti_gd ?_
      | refine ti_put (by decide) (by decide) (by assumption) (fun _ _ => ?_)
      | refine ti_call (fun _ _ h => D_75_i h) (by assumption) (fun _ _ _ => ?_)
      | refine ti_call (fun _ _ h => D_73_i h) (by assumption) (fun _ _ _ => ?_)
      | refine ti_call (fun _ _ h => Iq_fr (F_65 h) (by decide +kernel)) (by assumption) (fun _ _ _ => ?_)
      | refine ti_call (fun _ _ h => Iq_fr (F_66 h) (by decide +kernel)) (by assumption) (fun _ _ _ => ?_)
      | refine ti_call (fun _ _ h => Iq_fr (F_74 h) (by decide +kernel)) (by assumption) (fun _ _ _ => ?_)
      | exact ti_tail (fun _ _ h => hP _ _ _ _ _ h) (by assumption)
  exact t v N h
theorem L_76_i {x1 x2 : Int32} (h : L_76_1 x1 x2 M v N) : Iq M N := h (fun _ _ M _ N => Iq M N) (fun _ _ _ _ _ hs => S_76_i (fun _ _ _ _ _ h => h) hs)
theorem D_76_i (h : D_76 M v N) : Iq M N := by
  have r : Iq M M := Iq_r
  have t : pTi M (D_76 M) := by
    unfold D_76
    repeat' first
      | refine ti_put (by decide) (by decide) (by assumption) (fun _ _ => ?_)
      | exact ti_tail (fun _ _ h => L_76_i h) (by assumption)
  exact t v N h
theorem S_77_i {P1 : Int32 → pMem → pT Int32} (hP : ∀ x M v N, P1 x M v N → 0 ≤ x.toInt → x.toInt ≤ 16 → Iq M N) {x1 : Int32} (h0 : 0 ≤ x1.toInt) (h16 : x1.toInt ≤ 16) (h : S_77_1 P1 x1 M v N) : Iq M N := by
  have r : Iq M M := Iq_r
  have hx : 64 ≤ ix (kI 64 + x1) := by
    have e : (kI 64 + x1).toInt = 64 + x1.toInt := by rw [i_add (by rw [kI_toInt (by decide) (by decide)]; omega) (by rw [kI_toInt (by decide) (by decide)]; omega), kI_toInt (by decide) (by decide)]
    have q : ix (kI 64 + x1) = (kI 64 + x1).toInt.toNat := rfl
    omega
  rcases h with ⟨_, h⟩ | ⟨_, h⟩
  · rcases h with ⟨_, w, X, h66, hv, hN⟩ | ⟨_, hv, hN⟩
    · rw [hN]; exact Iq_fr (F_66 h66) (by decide +kernel)
    · rw [hN]; exact r
  · rcases h with ⟨_, h⟩ | ⟨_, h⟩
    · rcases h with ⟨_, w, X, h66, hv, hN⟩ | ⟨_, hv, hN⟩
      · rw [hN]; exact Iq_fr (F_66 h66) (by decide +kernel)
      · rw [hN]; exact r
    · rcases h with ⟨g, h⟩ | ⟨_, w, X, h66, hv, hN⟩
      · rw [yk (by decide) (by decide)] at g
        have y1 : (x1 + kI 1).toInt = x1.toInt + 1 := i_add1 (by omega)
        have y2 : 0 ≤ (x1 + kI 1).toInt := by omega
        have y3 : (x1 + kI 1).toInt ≤ 16 := by omega
        have key : ∀ {T : pT Int32}, pTi M T → T v N → Iq M N := fun k h => k v N h
        refine key ?_ h
        repeat' first
          | exact ti_ret (by assumption)
          | refine ti_if ?_ ?_
          | refine ti_gd ?_
          | refine ti_put5 (by decide) (by assumption) (by assumption) (fun _ _ => ?_)
          | refine ti_call (fun _ _ h => D_72_i h) (by assumption) (fun _ _ _ => ?_)
          | refine ti_call (fun _ _ h => D_76_i h) (by assumption) (fun _ _ _ => ?_)
          | refine ti_call (fun _ _ h => Iq_fr (F_65 h) (by decide +kernel)) (by assumption) (fun _ _ _ => ?_)
          | refine ti_call (fun _ _ h => Iq_fr (F_66 h) (by decide +kernel)) (by assumption) (fun _ _ _ => ?_)
          | exact ti_tail (fun _ _ h => hP _ _ _ _ h y2 y3) (by assumption)
      · rw [hN]; exact Iq_fr (F_66 h66) (by decide +kernel)
theorem D_77_i (h : D_77 M v N) : Iq M N :=
  (h (fun x M _ N => 0 ≤ x.toInt → x.toInt ≤ 16 → Iq M N) (fun _ _ _ _ hs h0 h16 => S_77_i (fun _ _ _ _ h a b => h a b) h0 h16 hs)) (by decide) (by decide)
end RI
