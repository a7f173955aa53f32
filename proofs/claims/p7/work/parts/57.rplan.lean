/-! plans, the reference's side -/
theorem f63_rg {T : Int32} (h : ¬ f_63 T = 0) : 40 ≤ T.toInt ∧ T.toInt ≤ 62 := by
  unfold f_63 at h
  simp only [i_eq, kI_toInt (n := 59) (by decide) (by decide), kI_toInt (n := 43) (by decide) (by decide), kI_toInt (n := 45) (by decide) (by decide), kI_toInt (n := 42) (by decide) (by decide), kI_toInt (n := 47) (by decide) (by decide), kI_toInt (n := 40) (by decide) (by decide), kI_toInt (n := 41) (by decide) (by decide), kI_toInt (n := 60) (by decide) (by decide), kI_toInt (n := 61) (by decide) (by decide), kI_toInt (n := 62) (by decide) (by decide)] at h
  by_cases c : 40 ≤ T.toInt ∧ T.toInt ≤ 62
  · exact c
  · rw [if_neg (by omega), if_neg (by omega), if_neg (by omega), if_neg (by omega), if_neg (by omega), if_neg (by omega), if_neg (by omega), if_neg (by omega), if_neg (by omega), if_pos (by omega)] at h
    exact absurd rfl h
theorem xRel_c {T V t v : Int32} (h : xRel T V t v) : (T.toInt = 101 ∧ t.toInt = 0) ∨ (T.toInt = 102 ∧ t.toInt = 1) ∨ (∃ r : Nat, r < 29 ∧ T.toInt = xCw r ∧ xCw r < 29 ∧ t.toInt = 2 ∧ v.toInt = r) ∨ (T.toInt = 100 ∧ t.toInt = 3 ∧ v = V) ∨ (40 ≤ T.toInt ∧ T.toInt ≤ 62 ∧ t.toInt = 4 ∧ v = T) := by
  rcases h with ⟨rfl, rfl⟩ | ⟨rfl, rfl⟩ | ⟨r, h1, rfl, rfl, rfl⟩ | ⟨rfl, rfl, h⟩ | ⟨h1, rfl, h⟩
  · exact Or.inl ⟨rfl, rfl⟩
  · exact Or.inr (Or.inl ⟨rfl, rfl⟩)
  · have := (xCw_lt r h1).1
    exact Or.inr (Or.inr (Or.inl ⟨r, h1, kI_toInt (by omega) (by omega), this, rfl, kI_toInt (by omega) (by omega)⟩))
  · exact Or.inr (Or.inr (Or.inr (Or.inl ⟨rfl, rfl, h⟩)))
  · have := f63_rg h1
    exact Or.inr (Or.inr (Or.inr (Or.inr ⟨this.1, this.2, rfl, h⟩)))
theorem xCw_pl : ∀ r, r < 29 → ((6 ≤ r ∧ r ≤ 10) ↔ (24 ≤ xCw r ∧ xCw r ≤ 28)) ∧ (24 ≤ xCw r → xCw r = r + 18) ∧ (r ≤ 5 ↔ (14 ≤ xCw r ∧ xCw r ≤ 19)) ∧ (r ≤ 5 → xCw r = r + 14) ∧ (15 ≤ r ↔ xCw r ≤ 13) ∧ (15 ≤ r → xCw r = r - 15) ∧ (r = 11 ↔ xCw r = 20) ∧ (r = 12 ↔ xCw r = 21) ∧ (r = 13 ↔ xCw r = 22) ∧ (r = 14 ↔ xCw r = 23) := by decide
/-- the reference stands at token k -/
def rR (M : pMem) (B : Nat → Int32) (n k : Nat) : Prop := xPre M B n ∧ n ≤ 500 ∧ (∀ i, i < n → 0 ≤ (B i).toInt) ∧ xCur M B n (xSt B n k)
theorem rR_t {M : pMem} {B : Nat → Int32} {n k : Nat} (h : rR M B n k) : xRel (yT B n k) (yV B n k) (M 188 27) (M 188 28) ∧ M 188 26 = kI (xSt B n k) := by
  obtain ⟨_, _, _, h1, h2, h3⟩ := h
  refine ⟨?_, h1⟩
  unfold yT yV
  by_cases c : xSt B n k < n
  · rw [if_pos c, if_pos c]
    exact (h2 c).2
  · rw [if_neg c, if_neg c]
    exact Or.inl ⟨rfl, (h3 c).2⟩
theorem rR_next {M : pMem} {B : Nat → Int32} {n k : Nat} (h : rR M B n k) {v : Unit} {N : pMem} (hD : D_65 M v N) : rR N B n (k + 1) := by
  obtain ⟨hp, hn, hB, h1, h2, h3⟩ := h
  have f := F_65 hD
  have e : ∀ a j, a < 230 → (a ≠ 188 ∨ j = 24) → pScr a j = false → N a j = M a j := fun a j h1 h2 h3 => f a j h1 h3 (by
    rcases h2 with h2 | rfl
    · show (!(Nat.beq 188 a && _) && (!(Nat.beq 188 a && _) && (!(Nat.beq 188 a && _) && (!(Nat.beq 188 a && _) && true)))) = true
      rw [show Nat.beq 188 a = false from Bool.eq_false_iff.mpr fun q => h2 (Nat.eq_of_beq_eq_true q).symm]
      rfl
    · by_cases c : a = 188
      · subst c
        rfl
      · show (!(Nat.beq 188 a && _) && (!(Nat.beq 188 a && _) && (!(Nat.beq 188 a && _) && (!(Nat.beq 188 a && _) && true)))) = true
        rw [show Nat.beq 188 a = false from Bool.eq_false_iff.mpr fun q => c (Nat.eq_of_beq_eq_true q).symm]
        rfl)
  have hp' : xPre N B n := by
    obtain ⟨p1, p2, p3⟩ := hp
    refine ⟨by rw [e 188 24 (by decide) (Or.inr rfl) rfl]; exact p1, ?_, ?_⟩
    · rw [← p2]
      funext i
      exact e 202 i (by decide) (Or.inl (by decide)) rfl
    · intro j hj
      rw [e 203 j (by decide) (Or.inl (by decide)) rfl]
      exact p3 j hj
  refine ⟨hp', hn, hB, ?_⟩
  have w := D_65_w hn hB hD hp
  by_cases c : xSt B n k < n
  · have nx := xNx_rg (B := B) c
    have r := w (xNx B n (xSt B n k)) (by rw [(h2 c).1]; exact kI_toInt (by omega) (by omega)) nx.2
    show xCur N B n (if xSt B n k < n then xSk B n (xNx B n (xSt B n k)) else n)
    rw [if_pos c]
    exact r
  · have r := w n (by rw [(h3 c).1]; exact kI_toInt (by omega) (by omega)) (Nat.le_refl _)
    rw [xSk_n] at r
    show xCur N B n (if xSt B n k < n then xSk B n (xNx B n (xSt B n k)) else n)
    rw [if_neg c]
    exact r
theorem rR_fr {M N : pMem} {B : Nat → Int32} {n k : Nat} {L : List (Nat × Nat)} (h : rR M B n k) (f : pFr L M N) (h1 : (pOut L 188 24 && (pOut L 188 25 && (pOut L 188 26 && (pOut L 188 27 && pOut L 188 28)))) = true) (h2 : ∀ j, (pOut L 202 j && pOut L 203 j) = true) : rR N B n k := by
  simp only [Bool.and_eq_true] at h1 h2
  obtain ⟨⟨p1, p2, p3⟩, hn, hB, c1, c2, c3⟩ := h
  have e24 := f 188 24 (by decide) rfl h1.1
  have e25 := f 188 25 (by decide) rfl h1.2.1
  have e26 := f 188 26 (by decide) rfl h1.2.2.1
  have e27 := f 188 27 (by decide) rfl h1.2.2.2.1
  have e28 := f 188 28 (by decide) rfl h1.2.2.2.2
  refine ⟨⟨by rw [e24]; exact p1, ?_, fun j hj => ?_⟩, hn, hB, ?_⟩
  · rw [← p2]
    funext i
    exact f 202 i (by decide) rfl (h2 i).1
  · rw [f 203 j (by decide) rfl (h2 j).2]
    exact p3 j hj
  · unfold xCur
    rw [e25, e26, e27, e28]
    exact ⟨c1, c2, c3⟩
/-- a fault of the reference at token k -/
def rNo (B : Nat → Int32) (n : Nat) (N : pMem) (v : Int32) (f k : Nat) : Prop := v = kI (-1) ∧ N 188 42 = kI f ∧ N 188 43 = kI (xSt B n k)
theorem D_66_w {M : pMem} {B : Nat → Int32} {n k f : Nat} (h : rR M B n k) {v : Int32} {N : pMem} (hD : D_66 (kI f) M v N) : rNo B n N v f k := by
  obtain ⟨M1, e1, M2, e2, hv, hN⟩ := hD
  have := (rR_t h).2
  subst hN
  refine ⟨hv, by rw [e2, aPut_at (by decide), e1, aPut_same], ?_⟩
  rw [e2, aPut_same, e1, aPut_at (by decide)]
  exact this
/-- lines as the reference keeps them, from a place on -/
def rlOk (W A : Nat → Int32) (b : Nat) (l : List (Int32 × Int32)) : Prop := ∀ i w, l[i]? = some w → (∃ r : Nat, 6 ≤ r ∧ r ≤ 10 ∧ w.1 = kI (r + 18 : Nat) ∧ W (b + i) = kI r) ∧ A (b + i) = w.2
def rPl (M N : pMem) (B : Nat → Int32) (n line m k : Nat) (acc : List (Int32 × Int32)) (v : Int32) : Prop :=
  ((plL (yT B n) (yV B n) m k).1 = 0 → v.toInt = (line + (plL (yT B n) (yV B n) m k).2.2.length : Nat) ∧ rlOk (N 214) (N 215) 96 (acc ++ (plL (yT B n) (yV B n) m k).2.2)) ∧
  (¬ (plL (yT B n) (yV B n) m k).1 = 0 → rNo B n N v (plL (yT B n) (yV B n) m k).1 (plL (yT B n) (yV B n) m k).2.1) ∧ ∀ i, i < 96 → N 214 i = M 214 i ∧ N 215 i = M 215 i
theorem rlOk_fr {M N : pMem} {l : List (Int32 × Int32)} {b : Nat} (h : rlOk (M 214) (M 215) b l) (h1 : ∀ i, i < b + l.length → N 214 i = M 214 i ∧ N 215 i = M 215 i) : rlOk (N 214) (N 215) b l := fun i w hw => by
  have hi := (List.getElem?_eq_some_iff.mp hw).1
  rw [(h1 (b + i) (by omega)).1, (h1 (b + i) (by omega)).2]
  exact h i w hw
theorem rR_sign {M : pMem} {B : Nat → Int32} {n k : Nat} (h : rR M B n k) : ¬ f_68 (kI 59) M = 0 ↔ yT B n k = kI 59 := by sorry


































theorem rR_num {M : pMem} {B : Nat → Int32} {n k : Nat} (h : rR M B n k) : (M 188 27 = kI 3 ↔ yT B n k = kI 100) ∧ (M 188 27 = kI 3 → M 188 28 = yV B n k) := by
  have c := xRel_c (rR_t h).1
  rw [yk (by decide) (by decide), yk (by decide) (by decide)]
  rcases c with c | c | ⟨r, c0, c⟩ | c | c
  · exact ⟨by omega, fun _ => by omega⟩
  · exact ⟨by omega, fun _ => by omega⟩
  · exact ⟨by omega, fun _ => by omega⟩
  · exact ⟨by omega, fun _ => c.2.2⟩
  · exact ⟨by omega, fun _ => by omega⟩
theorem S_79_w {B : Nat → Int32} {n : Nat} {P1 : Int32 → pMem → pT Int32} (hP : ∀ x1 M v N, P1 x1 M v N → ∀ (line m k : Nat) (acc : List (Int32 × Int32)), x1.toInt = line → line + m = 24 → acc.length = line → rR M B n k → rlOk (M 214) (M 215) 96 acc → rPl M N B n line m k acc v)
    {x1 : Int32} {M : pMem} {v : Int32} {N : pMem} (hs : S_79_1 P1 x1 M v N) {line m k : Nat} {acc : List (Int32 × Int32)} (hx : x1.toInt = line) (hm : line + m = 24) (hl : acc.length = line) (hr : rR M B n k) (ho : rlOk (M 214) (M 215) 96 acc) : rPl M N B n line m k acc v := by sorry















































































































































































theorem D_79_w {B : Nat → Int32} {n k : Nat} {M : pMem} {v : Int32} {N : pMem} (hr : rR M B n k) (h : D_79 M v N) : rPl M N B n 0 24 k [] v :=
  (h (fun x1 M v N => ∀ (line m k : Nat) (acc : List (Int32 × Int32)), x1.toInt = line → line + m = 24 → acc.length = line → rR M B n k → rlOk (M 214) (M 215) 96 acc → rPl M N B n line m k acc v)
    (fun x1 M v N hs line m k acc h1 h2 h3 h4 h5 => S_79_w (fun _ _ _ _ q => q) hs h1 h2 h3 h4 h5)) 0 24 k [] rfl rfl rfl hr (fun i w hw => by cases hw)
