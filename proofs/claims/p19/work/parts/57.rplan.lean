/-! plans, the reference's side -/
theorem f63_rg {T : Int32} (h : ¬ f_63 T = 0) : 40 ≤ T.toInt ∧ T.toInt ≤ 62 := by
  unfold f_63 at h
  simp only [i_eq, kI_toInt (n := 59) (by decide) (by decide), kI_toInt (n := 43) (by decide) (by decide), kI_toInt (n := 45) (by decide) (by decide), kI_toInt (n := 42) (by decide) (by decide), kI_toInt (n := 47) (by decide) (by decide), kI_toInt (n := 40) (by decide) (by decide), kI_toInt (n := 41) (by decide) (by decide), kI_toInt (n := 60) (by decide) (by decide), kI_toInt (n := 61) (by decide) (by decide), kI_toInt (n := 62) (by decide) (by decide)] at h
  by_cases c : 40 ≤ T.toInt ∧ T.toInt ≤ 62
  · exact c
  · rw [if_neg (by omega), if_neg (by omega), if_neg (by omega), if_neg (by omega), if_neg (by omega), if_neg (by omega), if_neg (by omega), if_neg (by omega), if_neg (by omega), if_pos (by omega)] at h
    exact absurd rfl h
theorem xRel_c {T V t v : Int32} (h : xRel T V t v) : (T.toInt = 101 ∧ t.toInt = 0) ∨ (T.toInt = 102 ∧ t.toInt = 1) ∨ (∃ r : Nat, r < 29 ∧ T.toInt = xCw r ∧ xCw r < 29 ∧ t.toInt = 2 ∧ v.toInt = r) ∨ (T.toInt = 100 ∧ t.toInt = 3 ∧ v = V) ∨ (40 ≤ T.toInt ∧ T.toInt ≤ 62 ∧ t.toInt = 4 ∧ v = T) := by
  rcases h with ⟨rfl, rfl⟩ | ⟨rfl, rfl⟩ | ⟨r, h1, rfl, rfl, rfl⟩ | ⟨rfl, rfl, h⟩ | ⟨h1, rfl, h⟩
  · exact Or.inl ⟨rfl, rfl⟩
  · exact Or.inr (Or.inl ⟨rfl, rfl⟩)
  · have := (xCw_lt r h1).1
    exact Or.inr (Or.inr (Or.inl ⟨r, h1, kI_toInt (by omega) (by omega), this, rfl, kI_toInt (by omega) (by omega)⟩))
  · exact Or.inr (Or.inr (Or.inr (Or.inl ⟨rfl, rfl, h⟩)))
  · have := f63_rg h1
    exact Or.inr (Or.inr (Or.inr (Or.inr ⟨this.1, this.2, rfl, h⟩)))
theorem xCw_pl : ∀ r, r < 29 → ((6 ≤ r ∧ r ≤ 10) ↔ (24 ≤ xCw r ∧ xCw r ≤ 28)) ∧ (24 ≤ xCw r → xCw r = r + 18) ∧ (r ≤ 5 ↔ (14 ≤ xCw r ∧ xCw r ≤ 19)) ∧ (r ≤ 5 → xCw r = r + 14) ∧ (15 ≤ r ↔ xCw r ≤ 13) ∧ (15 ≤ r → xCw r = r - 15) ∧ (r = 11 ↔ xCw r = 20) ∧ (r = 12 ↔ xCw r = 21) ∧ (r = 13 ↔ xCw r = 22) ∧ (r = 14 ↔ xCw r = 23) := by decide
/-- the reference stands at token k -/
def rR (M : pMem) (B : Nat → Int32) (n k : Nat) : Prop := xPre M B n ∧ n ≤ 500 ∧ (∀ i, i < n → 0 ≤ (B i).toInt) ∧ xCur M B n (xSt B n k)
theorem rR_t {M : pMem} {B : Nat → Int32} {n k : Nat} (h : rR M B n k) : xRel (yT B n k) (yV B n k) (M 188 27) (M 188 28) ∧ M 188 26 = kI (xSt B n k) := by
  obtain ⟨_, _, _, h1, h2, h3⟩ := h
  refine ⟨?_, h1⟩
  unfold yT yV
  by_cases c : xSt B n k < n
  · rw [if_pos c, if_pos c]
    exact (h2 c).2
  · rw [if_neg c, if_neg c]
    exact Or.inl ⟨rfl, (h3 c).2⟩
theorem rR_next {M : pMem} {B : Nat → Int32} {n k : Nat} (h : rR M B n k) {v : Unit} {N : pMem} (hD : D_65 M v N) : rR N B n (k + 1) := by
  obtain ⟨hp, hn, hB, h1, h2, h3⟩ := h
  have f := F_65 hD
  have e : ∀ a j, a < 230 → (a ≠ 188 ∨ j = 24) → pScr a j = false → N a j = M a j := fun a j h1 h2 h3 => f a j h1 h3 (by
    rcases h2 with h2 | rfl
    · show (!(Nat.beq 188 a && _) && (!(Nat.beq 188 a && _) && (!(Nat.beq 188 a && _) && (!(Nat.beq 188 a && _) && true)))) = true
      rw [show Nat.beq 188 a = false from Bool.eq_false_iff.mpr fun q => h2 (Nat.eq_of_beq_eq_true q).symm]
      rfl
    · by_cases c : a = 188
      · subst c
        rfl
      · show (!(Nat.beq 188 a && _) && (!(Nat.beq 188 a && _) && (!(Nat.beq 188 a && _) && (!(Nat.beq 188 a && _) && true)))) = true
        rw [show Nat.beq 188 a = false from Bool.eq_false_iff.mpr fun q => c (Nat.eq_of_beq_eq_true q).symm]
        rfl)
  have hp' : xPre N B n := by
    obtain ⟨p1, p2, p3⟩ := hp
    refine ⟨by rw [e 188 24 (by decide) (Or.inr rfl) rfl]; exact p1, ?_, ?_⟩
    · rw [← p2]
      funext i
      exact e 202 i (by decide) (Or.inl (by decide)) rfl
    · intro j hj
      rw [e 203 j (by decide) (Or.inl (by decide)) rfl]
      exact p3 j hj
  refine ⟨hp', hn, hB, ?_⟩
  have w := D_65_w hn hB hD hp
  by_cases c : xSt B n k < n
  · have nx := xNx_rg (B := B) c
    have r := w (xNx B n (xSt B n k)) (by rw [(h2 c).1]; exact kI_toInt (by omega) (by omega)) nx.2
    show xCur N B n (if xSt B n k < n then xSk B n (xNx B n (xSt B n k)) else n)
    rw [if_pos c]
    exact r
  · have r := w n (by rw [(h3 c).1]; exact kI_toInt (by omega) (by omega)) (Nat.le_refl _)
    rw [xSk_n] at r
    show xCur N B n (if xSt B n k < n then xSk B n (xNx B n (xSt B n k)) else n)
    rw [if_neg c]
    exact r
theorem rR_fr {M N : pMem} {B : Nat → Int32} {n k : Nat} {L : List (Nat × Nat)} (h : rR M B n k) (f : pFr L M N) (h1 : (pOut L 188 24 && (pOut L 188 25 && (pOut L 188 26 && (pOut L 188 27 && pOut L 188 28)))) = true) (h2 : ∀ j, (pOut L 202 j && pOut L 203 j) = true) : rR N B n k := by
  simp only [Bool.and_eq_true] at h1 h2
  obtain ⟨⟨p1, p2, p3⟩, hn, hB, c1, c2, c3⟩ := h
  have e24 := f 188 24 (by decide) rfl h1.1
  have e25 := f 188 25 (by decide) rfl h1.2.1
  have e26 := f 188 26 (by decide) rfl h1.2.2.1
  have e27 := f 188 27 (by decide) rfl h1.2.2.2.1
  have e28 := f 188 28 (by decide) rfl h1.2.2.2.2
  refine ⟨⟨by rw [e24]; exact p1, ?_, fun j hj => ?_⟩, hn, hB, ?_⟩
  · rw [← p2]
    funext i
    exact f 202 i (by decide) rfl (h2 i).1
  · rw [f 203 j (by decide) rfl (h2 j).2]
    exact p3 j hj
  · unfold xCur
    rw [e25, e26, e27, e28]
    exact ⟨c1, c2, c3⟩
/-- a fault of the reference at token k -/
def rNo (B : Nat → Int32) (n : Nat) (N : pMem) (v : Int32) (f k : Nat) : Prop := v = kI (-1) ∧ N 188 42 = kI f ∧ N 188 43 = kI (xSt B n k)
theorem D_66_w {M : pMem} {B : Nat → Int32} {n k f : Nat} (h : rR M B n k) {v : Int32} {N : pMem} (hD : D_66 (kI f) M v N) : rNo B n N v f k := by
  obtain ⟨M1, e1, M2, e2, hv, hN⟩ := hD
  have := (rR_t h).2
  subst hN
  refine ⟨hv, by rw [e2, aPut_at (by decide), e1, aPut_same], ?_⟩
  rw [e2, aPut_same, e1, aPut_at (by decide)]
  exact this
/-- lines as the reference keeps them, from a place on -/
def rlOk (W A : Nat → Int32) (b : Nat) (l : List (Int32 × Int32)) : Prop := ∀ i w, l[i]? = some w → (∃ r : Nat, 6 ≤ r ∧ r ≤ 10 ∧ w.1 = kI (r + 18 : Nat) ∧ W (b + i) = kI r) ∧ A (b + i) = w.2
def rPl (M N : pMem) (B : Nat → Int32) (n line m k : Nat) (acc : List (Int32 × Int32)) (v : Int32) : Prop :=
  ((plL (yT B n) (yV B n) m k).1 = 0 → v.toInt = (line + (plL (yT B n) (yV B n) m k).2.2.length : Nat) ∧ rlOk (N 214) (N 215) 96 (acc ++ (plL (yT B n) (yV B n) m k).2.2)) ∧
  (¬ (plL (yT B n) (yV B n) m k).1 = 0 → rNo B n N v (plL (yT B n) (yV B n) m k).1 (plL (yT B n) (yV B n) m k).2.1) ∧ ∀ i, i < 96 → N 214 i = M 214 i ∧ N 215 i = M 215 i
theorem rlOk_fr {M N : pMem} {l : List (Int32 × Int32)} {b : Nat} (h : rlOk (M 214) (M 215) b l) (h1 : ∀ i, i < b + l.length → N 214 i = M 214 i ∧ N 215 i = M 215 i) : rlOk (N 214) (N 215) b l := fun i w hw => by
  have hi := (List.getElem?_eq_some_iff.mp hw).1
  rw [(h1 (b + i) (by omega)).1, (h1 (b + i) (by omega)).2]
  exact h i w hw
theorem rR_sign {M : pMem} {B : Nat → Int32} {n k : Nat} (h : rR M B n k) : ¬ f_68 (kI 59) M = 0 ↔ yT B n k = kI 59 := by
  have c := xRel_c (rR_t h).1
  unfold f_68
  rw [show (yT B n k = kI 59) = ((yT B n k).toInt = 59) from propext (yk (by decide) (by decide))]
  by_cases c1 : M 188 27 = kI 4
  · rw [if_neg (nn c1)]
    rw [yk (by decide) (by decide)] at c1
    by_cases c2 : M 188 28 = kI 59
    · rw [if_neg (nn c2)]
      refine ⟨fun _ => ?_, fun _ => by decide⟩
      rcases c with c | c | ⟨r, _, c⟩ | c | ⟨_, _, _, c⟩
      · omega
      · omega
      · omega
      · omega
      · rw [← c, c2]
        rfl
    · rw [if_pos c2]
      refine ⟨fun q => absurd rfl q, fun e => ?_⟩
      rcases c with c | c | ⟨r, _, c⟩ | c | ⟨_, _, _, c⟩
      · omega
      · omega
      · omega
      · omega
      · rw [c, yk (by decide) (by decide)] at c2
        exact absurd e c2
  · rw [if_pos c1]
    refine ⟨fun q => absurd rfl q, fun e => ?_⟩
    rw [yk (by decide) (by decide)] at c1
    rcases c with c | c | ⟨r, c0, c⟩ | c | ⟨_, _, c, _⟩
    · omega
    · omega
    · omega
    · omega
    · exact absurd c c1
theorem rR_num {M : pMem} {B : Nat → Int32} {n k : Nat} (h : rR M B n k) : (M 188 27 = kI 3 ↔ yT B n k = kI 100) ∧ (M 188 27 = kI 3 → M 188 28 = yV B n k) := by
  have c := xRel_c (rR_t h).1
  rw [yk (by decide) (by decide), yk (by decide) (by decide)]
  rcases c with c | c | ⟨r, c0, c⟩ | c | c
  · exact ⟨by omega, fun _ => by omega⟩
  · exact ⟨by omega, fun _ => by omega⟩
  · exact ⟨by omega, fun _ => by omega⟩
  · exact ⟨by omega, fun _ => c.2.2⟩
  · exact ⟨by omega, fun _ => by omega⟩
theorem S_79_w {B : Nat → Int32} {n : Nat} {P1 : Int32 → pMem → pT Int32} (hP : ∀ x1 M v N, P1 x1 M v N → ∀ (line m k : Nat) (acc : List (Int32 × Int32)), x1.toInt = line → line + m = 24 → acc.length = line → rR M B n k → rlOk (M 214) (M 215) 96 acc → rPl M N B n line m k acc v)
    {x1 : Int32} {M : pMem} {v : Int32} {N : pMem} (hs : S_79_1 P1 x1 M v N) {line m k : Nat} {acc : List (Int32 × Int32)} (hx : x1.toInt = line) (hm : line + m = 24) (hl : acc.length = line) (hr : rR M B n k) (ho : rlOk (M 214) (M 215) 96 acc) : rPl M N B n line m k acc v := by
  have ct := xRel_c (rR_t hr).1
  have fault1 : ∀ (f k' : Nat) (M1 : pMem), (∀ i, i < 96 → M1 214 i = M 214 i ∧ M1 215 i = M 215 i) → rR M1 B n k' → plL (yT B n) (yV B n) m k = (f, k', []) → ¬ f = 0 → (tCall (D_66 (kI f) M1) fun v1 M2 => tRet v1 M2) v N → rPl M N B n line m k acc v := by
    rintro f k' M1 hrow hr1 ep hf ⟨v1, M2, hD, hv, hN⟩
    unfold rPl
    have f66 := F_66 hD
    rw [ep, hv, hN]
    exact ⟨fun e => absurd e hf, fun _ => D_66_w hr1 hD, fun i hi => ⟨(f66 214 i (by decide) rfl rfl).trans (hrow i hi).1, (f66 215 i (by decide) rfl rfl).trans (hrow i hi).2⟩⟩
  have noword : ¬ (24 ≤ (yT B n k).toInt ∧ (yT B n k).toInt ≤ 28) → (tIf (¬ (M 188 27) = 0) (tCall (D_66 (kI 1) M) fun v1 M1 => tRet v1 M1) (tRet x1 M)) v N → rPl M N B n line m k acc v := by
    intro c hs
    rcases hs with ⟨g, hs⟩ | ⟨g, hv, hN⟩
    · rw [i_eq, i_0] at g
      exact fault1 1 k M (fun _ _ => ⟨rfl, rfl⟩) hr (pl_m m k (by rw [yk (by decide) (by decide)]; rcases ct with c' | c' | ⟨r, c0, c'⟩ | c' | c' <;> omega) (by clear ct; omega)) (by decide) hs
    · have g := Classical.not_not.mp g
      rw [i_eq, i_0] at g
      have e : yT B n k = kI 101 := by
        rw [yk (by decide) (by decide)]
        rcases ct with c' | c' | ⟨r, c0, c'⟩ | c' | c' <;> omega
      unfold rPl
      rw [pl_end m k e]
      refine ⟨fun _ => ⟨by rw [hv, hx]; rfl, by rw [hN, List.append_nil]; exact ho⟩, fun e => absurd rfl e, fun i _ => by rw [hN]; exact ⟨rfl, rfl⟩⟩
  rcases hs with ⟨g1, hs⟩ | ⟨g1, hs⟩
  · rw [yk (by decide) (by decide)] at g1
    refine noword (fun q => ?_) hs
    rcases ct with c | c | ⟨r, c0, c⟩ | c | c <;> omega
  · rw [yk (by decide) (by decide)] at g1
    obtain ⟨r, r29, cT, _, _, cv⟩ : ∃ r : Nat, r < 29 ∧ (yT B n k).toInt = xCw r ∧ xCw r < 29 ∧ (M 188 27).toInt = 2 ∧ (M 188 28).toInt = r := by
      rcases ct with c | c | c | c | c
      · omega
      · omega
      · exact c
      · omega
      · omega
    have cw := xCw_pl r r29
    rcases hs with ⟨g2, hs⟩ | ⟨g2, hs⟩
    · refine noword (fun q => ?_) hs
      have : ¬ f_42 (M 188 28) (kI 6) (kI 10) = 0 := f_42_iff.mpr (by rw [i_le, i_le, kI_toInt (by decide) (by decide), kI_toInt (by decide) (by decide)]; omega)
      exact this g2
    · have g2 := f_42_iff.mp g2
      rw [i_le, i_le, kI_toInt (by decide) (by decide), kI_toInt (by decide) (by decide)] at g2
      have h24 : 24 ≤ xCw r := (cw.1.mp ⟨by omega, by omega⟩).1
      have er : xCw r = r + 18 := cw.2.1 h24
      have n101 : ¬ yT B n k = kI 101 := by rw [yk (by decide) (by decide)]; omega
      have nrg : ¬ ((yT B n k).toInt < 24 ∨ 28 < (yT B n k).toInt) := by omega
      have eT : yT B n k = kI (r + 18 : Nat) := kI_inj (by rw [cT, er])
      rcases hs with ⟨g3, hs⟩ | ⟨g3, hs⟩
      · rw [yk (by decide) (by decide), hx] at g3
        cases m with
        | zero => omega
        | succ m =>
          obtain ⟨_, M1, e1, _, M2, e2, _, M3, h65, hs⟩ := hs
          have ei : ix (kI 96 + x1) = 96 + line := ix_of (by rw [i_add (by rw [kI_toInt (by decide) (by decide)]; omega) (by rw [kI_toInt (by decide) (by decide)]; omega), kI_toInt (by decide) (by decide), hx]; omega)
          rw [ei] at e1 e2
          have f2 : pFr [(214, 999), (215, 999)] M M2 := fun a j h1 h2 h3 => by
            have q : a ≠ 214 ∧ a ≠ 215 := ⟨fun e => (by subst e; have h3 : false = true := h3; cases h3), fun e => (by subst e; have h3 : false = true := h3; cases h3)⟩
            rw [e2, aPut_cell q.2, e1, aPut_cell q.1]
          have r2 : rR M2 B n k := rR_fr hr f2 rfl (fun j => rfl)
          have r3 := rR_next r2 h65
          have f3 := F_65 h65
          have n1 := rR_num r3
          have w214 : ∀ i, M3 214 i = if i = 96 + line then M 188 28 else M 214 i := fun i => by
            rw [f3 214 i (by decide) rfl rfl, e2, aPut_cell (by decide), e1, aPut_row]
          have w215 : ∀ i, M3 215 i = if i = 96 + line then kI 0 else M 215 i := fun i => by
            rw [f3 215 i (by decide) rfl rfl, e2, aPut_row, e1, aPut_cell (by decide)]
          have row3 : ∀ i, i < 96 → M3 214 i = M 214 i ∧ M3 215 i = M 215 i := fun i hi => by
            rw [w214, w215, if_neg (by omega), if_neg (by omega)]
            exact ⟨rfl, rfl⟩
          -- behind the sign: the next line
          have go : ∀ (M5 : pMem) (k5 : Nat) (num : Int32), rR M5 B n k5 → (∀ i, M5 214 i = if i = 96 + line then M 188 28 else M 214 i) → (∀ i, M5 215 i = if i = 96 + line then num else M 215 i) →
              plOne (yT B n) (yV B n) k = (if ¬ yT B n k5 = kI 59 then (1, k5, (kI 0, kI 0)) else (0, k5 + 1, (yT B n k, num))) →
              (tIf (¬ (f_68 (kI 59) M5) = 0) (tCall (D_65 M5) fun _ M6 => P1 (x1 + (kI 1)) M6) (tCall (D_66 (kI 1) M5) fun v3 M6 => tRet v3 M6)) v N → rPl M N B n line (m + 1) k acc v := by
            intro M5 k5 num r5 a214 a215 ep hs
            rcases hs with ⟨g, _, M6, h65, hs⟩ | ⟨g, hs⟩
            · have g := (rR_sign r5).mp g
              rw [if_neg (nn g)] at ep
              have r6 := rR_next r5 h65
              have f6 := F_65 h65
              have k2 := hP _ _ _ _ hs (line + 1) m (k5 + 1) (acc ++ [(yT B n k, num)]) (by rw [i_add1 (by omega)]; omega) (by omega) (by rw [List.length_append, hl]; rfl) r6 (fun i w hw => by
                rw [f6 214 _ (by decide) rfl rfl, f6 215 _ (by decide) rfl rfl, a214, a215]
                by_cases c : i < acc.length
                · rw [List.getElem?_append_left c] at hw
                  rw [if_neg (by omega), if_neg (by omega)]
                  exact ho i w hw
                · by_cases c2 : i = acc.length
                  · rw [c2, List.getElem?_append_right (Nat.le_refl _), Nat.sub_self] at hw
                    cases hw
                    rw [if_pos (by omega), if_pos (by omega)]
                    exact ⟨⟨r, by omega, by omega, eT, kI_inj cv⟩, rfl⟩
                  · rw [List.getElem?_eq_none (by rw [List.length_append]; have : [(yT B n k, num)].length = 1 := rfl; omega)] at hw
                    cases hw)
              have ep2 : plL (yT B n) (yV B n) (m + 1) k = ((plL (yT B n) (yV B n) m (k5 + 1)).1, (plL (yT B n) (yV B n) m (k5 + 1)).2.1, (yT B n k, num) :: (plL (yT B n) (yV B n) m (k5 + 1)).2.2) := by
                conv => lhs; unfold plL
                rw [if_neg n101, if_neg nrg, ep, if_pos rfl]
              unfold rPl at k2 ⊢
              rw [ep2]
              refine ⟨fun e => ?_, fun e => k2.2.1 e, fun i hi => ?_⟩
              rotate_left
              · rw [(k2.2.2 i hi).1, (k2.2.2 i hi).2, f6 214 _ (by decide) rfl rfl, f6 215 _ (by decide) rfl rfl, a214, a215, if_neg (by omega), if_neg (by omega)]
                exact ⟨rfl, rfl⟩
              obtain ⟨a1, a2⟩ := k2.1 e
              refine ⟨by rw [a1, List.length_cons]; omega, ?_⟩
              rw [List.append_assoc] at a2
              exact a2
            · have g' : ¬ yT B n k5 = kI 59 := fun e => g ((rR_sign r5).mpr e)
              rw [if_pos g'] at ep
              refine fault1 1 k5 M5 (fun i hi => by rw [a214, a215, if_neg (by omega), if_neg (by omega)]; exact ⟨rfl, rfl⟩) r5 ?_ (by decide) hs
              conv => lhs; unfold plL
              rw [if_neg n101, if_neg nrg, ep, if_neg (show ¬ (1 : Nat) = 0 by decide)]
          -- with a number
          have withNum : ∀ (a : Int32), (yT B n k = kI 25 ∨ yT B n k = kI 28) → a = (if yT B n k = kI 28 then kI 1 else kI 9) →
              (tIf ((M3 188 27) = (kI 3)) (tIf ((M3 188 28) ≤ a) (tGd (pIn ((kI 96) + x1) 120) <| tPut (aPut M3 215 (ix ((kI 96) + x1)) (M3 188 28)) fun M4 => tCall (D_65 M4) fun _ M5 => tIf (¬ (f_68 (kI 59) M5) = 0) (tCall (D_65 M5) fun _ M6 => P1 (x1 + (kI 1)) M6) (tCall (D_66 (kI 1) M5) fun v3 M6 => tRet v3 M6)) (tCall (D_66 (kI 2) M3) fun v2 M4 => tRet v2 M4)) (tCall (D_66 (kI 1) M3) fun v2 M4 => tRet v2 M4)) v N → rPl M N B n line (m + 1) k acc v := by
            intro a hT ha hs
            rcases hs with ⟨g4, hs⟩ | ⟨g4, hs⟩
            · have t100 := n1.1.mp g4
              have v1 := n1.2 g4
              rcases hs with ⟨g5, _, M4, e4, _, M5, h65b, hs⟩ | ⟨g5, hs⟩
              · rw [v1] at g5
                rw [ei] at e4
                have f4 : pFr [(215, 999)] M3 M4 := fun b j h1 h2 h3 => by
                  rw [e4, aPut_cell (fun e => by subst e; have h3 : false = true := h3; cases h3)]
                have r4 : rR M4 B n (k + 1) := rR_fr r3 f4 rfl (fun j => rfl)
                have r5 := rR_next r4 h65b
                have f5 := F_65 h65b
                refine go M5 (k + 2) (yV B n (k + 1)) r5 (fun i => ?_) (fun i => ?_) ?_ hs
                · rw [f5 214 i (by decide) rfl rfl, e4, aPut_cell (by decide)]
                  exact w214 i
                · rw [f5 215 i (by decide) rfl rfl, e4, aPut_row, w215 i, v1]
                  by_cases c : i = 96 + line
                  · rw [if_pos c, if_pos c]
                  · rw [if_neg c, if_neg c, if_neg c]
                · unfold plOne
                  rw [if_pos hT, if_neg (nn t100), if_neg (nn (by rw [← ha]; exact g5))]
              · rw [v1] at g5
                refine fault1 2 (k + 1) M3 row3 r3 ?_ (by decide) hs
                conv => lhs; unfold plL
                have ep : plOne (yT B n) (yV B n) k = (2, k + 1, (kI 0, kI 0)) := by
                  unfold plOne
                  rw [if_pos hT, if_neg (nn t100), if_pos (by rw [← ha]; exact g5)]
                rw [if_neg n101, if_neg nrg, ep, if_neg (show ¬ (2 : Nat) = 0 by decide)]
            · have t100 : ¬ yT B n (k + 1) = kI 100 := fun e => g4 (n1.1.mpr e)
              refine fault1 1 (k + 1) M3 row3 r3 ?_ (by decide) hs
              conv => lhs; unfold plL
              have ep : plOne (yT B n) (yV B n) k = (1, k + 1, (kI 0, kI 0)) := by
                unfold plOne
                rw [if_pos hT, if_pos t100]
              rw [if_neg n101, if_neg nrg, ep, if_neg (show ¬ (1 : Nat) = 0 by decide)]
          have e7 : (M 188 28 = kI 7) ↔ yT B n k = kI 25 := by rw [yk (by decide) (by decide), yk (by decide) (by decide)]; omega
          have e10 : (M 188 28 = kI 10) ↔ yT B n k = kI 28 := by rw [yk (by decide) (by decide), yk (by decide) (by decide)]; omega
          rcases hs with ⟨g4, hs⟩ | ⟨g4, hs⟩
          · have t25 := e7.mp g4
            have n28 : ¬ yT B n k = kI 28 := by rw [t25]; decide
            have n10 : ¬ M 188 28 = kI 10 := fun e => n28 (e10.mp e)
            refine withNum (kI 9) (Or.inl t25) (by rw [if_neg n28]) ?_
            rcases hs with ⟨g5, hs⟩ | ⟨g5, hs⟩
            · exact Or.inl ⟨g5, tIf_p n10 hs⟩
            · exact Or.inr ⟨g5, hs⟩
          · have n25 : ¬ yT B n k = kI 25 := fun e => g4 (e7.mpr e)
            rcases hs with ⟨g5, hs⟩ | ⟨g5, hs⟩
            · have n28 : ¬ yT B n k = kI 28 := fun e => g5 (e10.mpr e)
              refine go M3 (k + 1) (kI 0) r3 w214 w215 ?_ hs
              unfold plOne
              rw [if_neg (fun e => e.elim n25 n28)]
            · have g5 := Classical.not_not.mp g5
              have t28 := e10.mp g5
              refine withNum (kI 1) (Or.inr t28) (by rw [if_pos t28]) ?_
              rcases hs with ⟨g6, hs⟩ | ⟨g6, hs⟩
              · exact Or.inl ⟨g6, tIf_n (nn g5) hs⟩
              · exact Or.inr ⟨g6, hs⟩
      · have g3 := Classical.not_not.mp g3
        rw [yk (by decide) (by decide), hx] at g3
        have em : m = 0 := by omega
        subst em
        refine fault1 3 k M (fun _ _ => ⟨rfl, rfl⟩) hr ?_ (by decide) hs
        unfold plL
        rw [if_neg n101, if_neg nrg]
theorem D_79_w {B : Nat → Int32} {n k : Nat} {M : pMem} {v : Int32} {N : pMem} (hr : rR M B n k) (h : D_79 M v N) : rPl M N B n 0 24 k [] v :=
  (h (fun x1 M v N => ∀ (line m k : Nat) (acc : List (Int32 × Int32)), x1.toInt = line → line + m = 24 → acc.length = line → rR M B n k → rlOk (M 214) (M 215) 96 acc → rPl M N B n line m k acc v)
    (fun x1 M v N hs line m k acc h1 h2 h3 h4 h5 => S_79_w (fun _ _ _ _ q => q) hs h1 h2 h3 h4 h5)) 0 24 k [] rfl rfl rfl hr (fun i w hw => by cases hw)
