/-! plans, the reference's side -/
theorem f63_rg {T : Int32} (h : ¬ f_63 T = 0) : 40 ≤ T.toInt ∧ T.toInt ≤ 62 := by
  unfold f_63 at h
  simp only [i_eq, kI_toInt (n := 59) (by decide) (by decide), kI_toInt (n := 43) (by decide) (by decide), kI_toInt (n := 45) (by decide) (by decide), kI_toInt (n := 42) (by decide) (by decide), kI_toInt (n := 47) (by decide) (by decide), kI_toInt (n := 40) (by decide) (by decide), kI_toInt (n := 41) (by decide) (by decide), kI_toInt (n := 60) (by decide) (by decide), kI_toInt (n := 61) (by decide) (by decide), kI_toInt (n := 62) (by decide) (by decide)] at h
  by_cases c : 40 ≤ T.toInt ∧ T.toInt ≤ 62
  · exact c
  · rw [if_neg (by omega), if_neg (by omega), if_neg (by omega), if_neg (by omega), if_neg (by omega), if_neg (by omega), if_neg (by omega), if_neg (by omega), if_neg (by omega), if_pos (by omega)] at h
    exact absurd rfl h
theorem xRel_c {T V t v : Int32} (h : xRel T V t v) : (T.toInt = 101 ∧ t.toInt = 0) ∨ (T.toInt = 102 ∧ t.toInt = 1) ∨ (∃ r : Nat, r < 29 ∧ T.toInt = xCw r ∧ xCw r < 29 ∧ t.toInt = 2 ∧ v.toInt = r) ∨ (T.toInt = 100 ∧ t.toInt = 3 ∧ v = V) ∨ (40 ≤ T.toInt ∧ T.toInt ≤ 62 ∧ t.toInt = 4 ∧ v = T) := by
  rcases h with ⟨rfl, rfl⟩ | ⟨rfl, rfl⟩ | ⟨r, h1, rfl, rfl, rfl⟩ | ⟨rfl, rfl, h⟩ | ⟨h1, rfl, h⟩
  · exact Or.inl ⟨rfl, rfl⟩
  · exact Or.inr (Or.inl ⟨rfl, rfl⟩)
  · have := (xCw_lt r h1).1
    exact Or.inr (Or.inr (Or.inl ⟨r, h1, kI_toInt (by omega) (by omega), this, rfl, kI_toInt (by omega) (by omega)⟩))
  · exact Or.inr (Or.inr (Or.inr (Or.inl ⟨rfl, rfl, h⟩)))
  · have := f63_rg h1
    exact Or.inr (Or.inr (Or.inr (Or.inr ⟨this.1, this.2, rfl, h⟩)))
theorem xCw_pl : ∀ r, r < 29 → ((6 ≤ r ∧ r ≤ 10) ↔ (24 ≤ xCw r ∧ xCw r ≤ 28)) ∧ (24 ≤ xCw r → xCw r = r + 18) ∧ (r ≤ 5 ↔ (14 ≤ xCw r ∧ xCw r ≤ 19)) ∧ (r ≤ 5 → xCw r = r + 14) ∧ (15 ≤ r ↔ xCw r ≤ 13) ∧ (15 ≤ r → xCw r = r - 15) ∧ (r = 11 ↔ xCw r = 20) ∧ (r = 12 ↔ xCw r = 21) ∧ (r = 13 ↔ xCw r = 22) ∧ (r = 14 ↔ xCw r = 23) := by decide
/-- the reference stands at token k -/
def rR (M : pMem) (B : Nat → Int32) (n k : Nat) : Prop := xPre M B n ∧ n ≤ 500 ∧ (∀ i, i < n → 0 ≤ (B i).toInt) ∧ xCur M B n (xSt B n k)
theorem rR_t {M : pMem} {B : Nat → Int32} {n k : Nat} (h : rR M B n k) : xRel (yT B n k) (yV B n k) (M 188 27) (M 188 28) ∧ M 188 26 = kI (xSt B n k) := by
  obtain ⟨_, _, _, h1, h2, h3⟩ := h
  refine ⟨?_, h1⟩
  unfold yT yV
  by_cases c : xSt B n k < n
  · rw [if_pos c, if_pos c]
    exact (h2 c).2
  · rw [if_neg c, if_neg c]
    exact Or.inl ⟨rfl, (h3 c).2⟩
theorem rR_next {M : pMem} {B : Nat → Int32} {n k : Nat} (h : rR M B n k) {v : Unit} {N : pMem} (hD : D_65 M v N) : rR N B n (k + 1) := by
  obtain ⟨hp, hn, hB, h1, h2, h3⟩ := h
  have f := F_65 hD
  have e : ∀ a j, a < 230 → (a ≠ 188 ∨ j = 24) → pScr a j = false → N a j = M a j := fun a j h1 h2 h3 => f a j h1 h3 (by
    rcases h2 with h2 | rfl
    · show (!(Nat.beq 188 a && _) && (!(Nat.beq 188 a && _) && (!(Nat.beq 188 a && _) && (!(Nat.beq 188 a && _) && true)))) = true
      rw [show Nat.beq 188 a = false from Bool.eq_false_iff.mpr fun q => h2 (Nat.eq_of_beq_eq_true q).symm]
      rfl
    · by_cases c : a = 188
      · subst c
        rfl
      · show (!(Nat.beq 188 a && _) && (!(Nat.beq 188 a && _) && (!(Nat.beq 188 a && _) && (!(Nat.beq 188 a && _) && true)))) = true
        rw [show Nat.beq 188 a = false from Bool.eq_false_iff.mpr fun q => c (Nat.eq_of_beq_eq_true q).symm]
        rfl)
  have hp' : xPre N B n := by
    obtain ⟨p1, p2, p3⟩ := hp
    refine ⟨by rw [e 188 24 (by decide) (Or.inr rfl) rfl]; exact p1, ?_, ?_⟩
    · rw [← p2]
      funext i
      exact e 202 i (by decide) (Or.inl (by decide)) rfl
    · intro j hj
      rw [e 203 j (by decide) (Or.inl (by decide)) rfl]
      exact p3 j hj
  refine ⟨hp', hn, hB, ?_⟩
  have w := D_65_w hn hB hD hp
  by_cases c : xSt B n k < n
  · have nx := xNx_rg (B := B) c
    have r := w (xNx B n (xSt B n k)) (by rw [(h2 c).1]; exact kI_toInt (by omega) (by omega)) nx.2
    show xCur N B n (if xSt B n k < n then xSk B n (xNx B n (xSt B n k)) else n)
    rw [if_pos c]
    exact r
  · have r := w n (by rw [(h3 c).1]; exact kI_toInt (by omega) (by omega)) (Nat.le_refl _)
    rw [xSk_n] at r
    show xCur N B n (if xSt B n k < n then xSk B n (xNx B n (xSt B n k)) else n)
    rw [if_neg c]
    exact r
theorem rR_fr {M N : pMem} {B : Nat → Int32} {n k : Nat} {L : List (Nat × Nat)} (h : rR M B n k) (f : pFr L M N) (h1 : (pOut L 188 24 && (pOut L 188 25 && (pOut L 188 26 && (pOut L 188 27 && pOut L 188 28)))) = true) (h2 : ∀ j, (pOut L 202 j && pOut L 203 j) = true) : rR N B n k := by
  simp only [Bool.and_eq_true] at h1 h2
  obtain ⟨⟨p1, p2, p3⟩, hn, hB, c1, c2, c3⟩ := h
  have e24 := f 188 24 (by decide) rfl h1.1
  have e25 := f 188 25 (by decide) rfl h1.2.1
  have e26 := f 188 26 (by decide) rfl h1.2.2.1
  have e27 := f 188 27 (by decide) rfl h1.2.2.2.1
  have e28 := f 188 28 (by decide) rfl h1.2.2.2.2
  refine ⟨⟨by rw [e24]; exact p1, ?_, fun j hj => ?_⟩, hn, hB, ?_⟩
  · rw [← p2]
    funext i
    exact f 202 i (by decide) rfl (h2 i).1
  · rw [f 203 j (by decide) rfl (h2 j).2]
    exact p3 j hj
  · unfold xCur
    rw [e25, e26, e27, e28]
    exact ⟨c1, c2, c3⟩
/-- a fault of the reference at token k -/
def rNo (B : Nat → Int32) (n : Nat) (N : pMem) (v : Int32) (f k : Nat) : Prop := v = kI (-1) ∧ N 188 42 = kI f ∧ N 188 43 = kI (xSt B n k)
theorem D_66_w {M : pMem} {B : Nat → Int32} {n k f : Nat} (h : rR M B n k) {v : Int32} {N : pMem} (hD : D_66 (kI f) M v N) : rNo B n N v f k := by
  obtain ⟨M1, e1, M2, e2, hv, hN⟩ := hD
  have := (rR_t h).2
  subst hN
  refine ⟨hv, by rw [e2, aPut_at (by decide), e1, aPut_same], ?_⟩
  rw [e2, aPut_same, e1, aPut_at (by decide)]
  exact this
/-- lines as the reference keeps them, from a place on -/
def rlOk (W A : Nat → Int32) (b : Nat) (l : List (Int32 × Int32)) : Prop := ∀ i w, l[i]? = some w → (∃ r : Nat, 6 ≤ r ∧ r ≤ 10 ∧ w.1 = kI (r + 18 : Nat) ∧ W (b + i) = kI r) ∧ A (b + i) = w.2
def rPl (M N : pMem) (B : Nat → Int32) (n line m k : Nat) (acc : List (Int32 × Int32)) (v : Int32) : Prop :=
  ((plL (yT B n) (yV B n) m k).1 = 0 → v.toInt = (line + (plL (yT B n) (yV B n) m k).2.2.length : Nat) ∧ rlOk (N 214) (N 215) 96 (acc ++ (plL (yT B n) (yV B n) m k).2.2)) ∧
  (¬ (plL (yT B n) (yV B n) m k).1 = 0 → rNo B n N v (plL (yT B n) (yV B n) m k).1 (plL (yT B n) (yV B n) m k).2.1) ∧ ∀ i, i < 96 → N 214 i = M 214 i ∧ N 215 i = M 215 i
theorem rlOk_fr {M N : pMem} {l : List (Int32 × Int32)} {b : Nat} (h : rlOk (M 214) (M 215) b l) (h1 : ∀ i, i < b + l.length → N 214 i = M 214 i ∧ N 215 i = M 215 i) : rlOk (N 214) (N 215) b l := fun i w hw => by
  have hi := (List.getElem?_eq_some_iff.mp hw).1
  rw [(h1 (b + i) (by omega)).1, (h1 (b + i) (by omega)).2]
  exact h i w hw
theorem rR_sign {M : pMem} {B : Nat → Int32} {n k : Nat} (h : rR M B n k) : ¬ f_68 (kI 59) M = 0 ↔ yT B n k = kI 59 := by
  have c := xRel_c (rR_t h).1
  unfold f_68
  rw [show (yT B n k = kI 59) = ((yT B n k).toInt = 59) from propext (yk (by decide) (by decide))]
  by_cases c1 : M 188 27 = kI 4
  · rw [if_neg (nn c1)]
    rw [yk (by decide) (by decide)] at c1
    by_cases c2 : M 188 28 = kI 59
    · rw [if_neg (nn c2)]
      refine ⟨fun _ => ?_, fun _ => by decide⟩
      rcases c with c | c | ⟨r, _, c⟩ | c | ⟨_, _, _, c⟩
      · omega
      · omega
      · omega
      · omega
      · rw [← c, c2]
        rfl
    · rw [if_pos c2]
      refine ⟨fun q => absurd rfl q, fun e => ?_⟩
      rcases c with c | c | ⟨r, _, c⟩ | c | ⟨_, _, _, c⟩
      · omega
      · omega
      · omega
      · omega
      · rw [c, yk (by decide) (by decide)] at c2
        exact absurd e c2
  · rw [if_pos c1]
    refine ⟨fun q => absurd rfl q, fun e => ?_⟩
    rw [yk (by decide) (by decide)] at c1
    rcases c with c | c | ⟨r, c0, c⟩ | c | ⟨_, _, c, _⟩
    · omega
    · omega
    · omega
    · omega
    · exact absurd c c1
theorem rR_num {M : pMem} {B : Nat → Int32} {n k : Nat} (h : rR M B n k) : (M 188 27 = kI 3 ↔ yT B n k = kI 100) ∧ (M 188 27 = kI 3 → M 188 28 = yV B n k) := by
  have c := xRel_c (rR_t h).1
  rw [yk (by decide) (by decide), yk (by decide) (by decide)]
  rcases c with c | c | ⟨r, c0, c⟩ | c | c
  · exact ⟨by omega, fun _ => by omega⟩
  · exact ⟨by omega, fun _ => by omega⟩
  · exact ⟨by omega, fun _ => by omega⟩
  · exact ⟨by omega, fun _ => c.2.2⟩
  · exact ⟨by omega, fun _ => by omega⟩
theorem S_79_w {B : Nat → Int32} {n : Nat} {P1 : Int32 → pMem → pT Int32} (hP : ∀ x1 M v N, P1 x1 M v N → ∀ (line m k : Nat) (acc : List (Int32 × Int32)), x1.toInt = line → line + m = 24 → acc.length = line → rR M B n k → rlOk (M 214) (M 215) 96 acc → rPl M N B n line m k acc v)
    {x1 : Int32} {M : pMem} {v : Int32} {N : pMem} (hs : S_79_1 P1 x1 M v N) {line m k : Nat} {acc : List (Int32 × Int32)} (hx : x1.toInt = line) (hm : line + m = 24) (hl : acc.length = line) (hr : rR M B n k) (ho : rlOk (M 214) (M 215) 96 acc) : rPl M N B n line m k acc v := by
  have ct := xRel_c (rR_t hr).1
  have fault1 : ∀ (f k' : Nat) (M1 : pMem), (∀ i, i < 96 → M1 214 i = M 214 i ∧ M1 215 i = M 215 i) → rR M1 B n k' → plL (yT B n) (yV B n) m k = (f, k', []) → ¬ f = 0 → (tCall (D_66 (kI f) M1) fun v1 M2 => tRet v1 M2) v N → rPl M N B n line m k acc v := by
    rintro f k' M1 hrow hr1 ep hf ⟨v1, M2, hD, hv, hN⟩
    unfold rPl
    have f66 := F_66 hD
    rw [ep, hv, hN]
    exact ⟨fun e => absurd e hf, fun _ => D_66_w hr1 hD, fun i hi => ⟨(f66 214 i (by decide) rfl rfl).trans (hrow i hi).1, (f66 215 i (by decide) rfl rfl).trans (hrow i hi).2⟩⟩
  have noword : ¬ (24 ≤ (yT B n k).toInt ∧ (yT B n k).toInt ≤ 28) → (tIf (¬ (M 188 27) = 0) (tCall (D_66 (kI 1) M) fun v1 M1 => tRet v1 M1) (tRet x1 M)) v N → rPl M N B n line m k acc v := by
    intro c hs
    rcases hs with ⟨g, hs⟩ | ⟨g, hv, hN⟩
    · rw [i_eq, i_0] at g
      exact fault1 1 k M (fun _ _ => ⟨rfl, rfl⟩) hr (pl_m m k (by rw [yk (by decide) (by decide)]; rcases ct with c' | c' | ⟨r, c0, c'⟩ | c' | c' <;> omega) (by clear ct; omega)) (by decide) hs
    · have g := Classical.not_not.mp g
      rw [i_eq, i_0] at g
      have e : yT B n k = kI 101 := by
        rw [yk (by decide) (by decide)]
        rcases ct with c' | c' | ⟨r, c0, c'⟩ | c' | c' <;> omega
      unfold rPl
      rw [pl_end m k e]
      refine ⟨fun _ => ⟨by rw [hv, hx]; rfl, by rw [hN, List.append_nil]; exact ho⟩, fun e => absurd rfl e, fun i _ => by rw [hN]; exact ⟨rfl, rfl⟩⟩
  rcases hs with ⟨g1, hs⟩ | ⟨g1, hs⟩
  · rw [yk (by decide) (by decide)] at g1
    refine noword (fun q => ?_) hs
    rcases ct with c | c | ⟨r, c0, c⟩ | c | c <;> omega
  · rw [yk (by decide) (by decide)] at g1
    obtain ⟨r, r29, cT, _, _, cv⟩ : ∃ r : Nat, r < 29 ∧ (yT B n k).toInt = xCw r ∧ xCw r < 29 ∧ (M 188 27).toInt = 2 ∧ (M 188 28).toInt = r := by
      rcases ct with c | c | c | c | c
      · omega
      · omega
      · exact c
      · omega
      · omega
    have cw := xCw_pl r r29
    rcases hs with ⟨g2, hs⟩ | ⟨g2, hs⟩
    · refine noword (fun q => ?_) hs
      have : ¬ f_42 (M 188 28) (kI 6) (kI 10) = 0 := f_42_iff.mpr (by rw [i_le, i_le, kI_toInt (by decide) (by decide), kI_toInt (by decide) (by decide)]; omega)
      exact this g2
    · have g2 := f_42_iff.mp g2
      rw [i_le, i_le, kI_toInt (by decide) (by decide), kI_toInt (by decide) (by decide)] at g2
      have h24 : 24 ≤ xCw r := (cw.1.mp ⟨by omega, by omega⟩).1
      have er : xCw r = r + 18 := cw.2.1 h24
      have n101 : ¬ yT B n k = kI 101 := by rw [yk (by decide) (by decide)]; omega
      have nrg : ¬ ((yT B n k).toInt < 24 ∨ 28 < (yT B n k).toInt) := by omega
      have eT : yT B n k = kI (r + 18 : Nat) := kI_inj (by rw [cT, er])
      rcases hs with ⟨g3, hs⟩ | ⟨g3, hs⟩
      · rw [yk (by decide) (by decide), hx] at g3
        cases m with
        | zero => omega
        | succ m =>
          obtain ⟨_, M1, e1, _, M2, e2, _, M3, h65, hs⟩ := hs
          have ei : ix (kI 96 + x1) = 96 + line := ix_of (by rw [i_add (by rw [kI_toInt (by decide) (by decide)]; omega) (by rw [kI_toInt (by decide) (by decide)]; omega), kI_toInt (by decide) (by decide), hx]; omega)
          rw [ei] at e1 e2
          have f2 : pFr [(214, 999), (215, 999)] M M2 := fun a j h1 h2 h3 => by
            have q : a ≠ 214 ∧ a ≠ 215 := ⟨fun e => (by subst e; have h3 : false = true := h3; cases h3), fun e => (by subst e; have h3 : false = true := h3; cases h3)⟩
            rw [e2, aPut_cell q.2, e1, aPut_cell q.1]
          have r2 : rR M2 B n k := rR_fr hr f2 rfl (fun j => rfl)
          have r3 := rR_next r2 h65
          have f3 := F_65 h65
          have n1 := rR_num r3
          have w214 : ∀ i, M3 214 i = if i = 96 + line then M 188 28 else M 214 i := fun i => by
            rw [f3 214 i (by decide) rfl rfl, e2, aPut_cell (by decide), e1, aPut_row]
          have w215 : ∀ i, M3 215 i = if i = 96 + line then kI 0 else M 215 i := fun i => by
            rw [f3 215 i (by decide) rfl rfl, e2, aPut_row, e1, aPut_cell (by decide)]
          have row3 : ∀ i, i < 96 → M3 214 i = M 214 i ∧ M3 215 i = M 215 i := fun i hi => by
            rw [w214, w215, if_neg (by omega), if_neg (by omega)]
            exact ⟨rfl, rfl⟩
          -- behind the sign: the next line
          have go : ∀ (M5 : pMem) (k5 : Nat) (num : Int32), rR M5 B n k5 → (∀ i, M5 214 i = if i = 96 + line then M 188 28 else M 214 i) → (∀ i, M5 215 i = if i = 96 + line then num else M 215 i) →
              plOne (yT B n) (yV B n) k = (if ¬ yT B n k5 = kI 59 then (1, k5, (kI 0, kI 0)) else (0, k5 + 1, (yT B n k, num))) →
              (tIf (¬ (f_68 (kI 59) M5) = 0) (tCall (D_65 M5) fun _ M6 => P1 (x1 + (kI 1)) M6) (tCall (D_66 (kI 1) M5) fun v3 M6 => tRet v3 M6)) v N → rPl M N B n line (m + 1) k acc v := by
            intro M5 k5 num r5 a214 a215 ep hs
            rcases hs with ⟨g, _, M6, h65, hs⟩ | ⟨g, hs⟩
            · have g := (rR_sign r5).mp g
              rw [if_neg (nn g)] at ep
              have r6 := rR_next r5 h65
              have f6 := F_65 h65
              have k2 := hP _ _ _ _ hs (line + 1) m (k5 + 1) (acc ++ [(yT B n k, num)]) (by rw [i_add1 (by omega)]; omega) (by omega) (by rw [List.length_append, hl]; rfl) r6 (fun i w hw => by
                rw [f6 214 _ (by decide) rfl rfl, f6 215 _ (by decide) rfl rfl, a214, a215]
                by_cases c : i < acc.length
                · rw [List.getElem?_append_left c] at hw
                  rw [if_neg (by omega), if_neg (by omega)]
                  exact ho i w hw
                · by_cases c2 : i = acc.length
                  · rw [c2, List.getElem?_append_right (Nat.le_refl _), Nat.sub_self] at hw
                    cases hw
                    rw [if_pos (by omega), if_pos (by omega)]
                    exact ⟨⟨r, by omega, by omega, eT, kI_inj cv⟩, rfl⟩
                  · rw [List.getElem?_eq_none (by rw [List.length_append]; have : [(yT B n k, num)].length = 1 := rfl; omega)] at hw
                    cases hw)
              have ep2 : plL (yT B n) (yV B n) (m + 1) k = ((plL (yT B n) (yV B n) m (k5 + 1)).1, (plL (yT B n) (yV B n) m (k5 + 1)).2.1, (yT B n k, num) :: (plL (yT B n) (yV B n) m (k5 + 1)).2.2) := by
                conv => lhs; unfold plL
                rw [if_neg n101, if_neg nrg, ep, if_pos rfl]
              unfold rPl at k2 ⊢
              rw [ep2]
              refine ⟨fun e => ?_, fun e => k2.2.1 e, fun i hi => ?_⟩
              rotate_left
              · rw [(k2.2.2 i hi).1, (k2.2.2 i hi).2, f6 214 _ (by decide) rfl rfl, f6 215 _ (by decide) rfl rfl, a214, a215, if_neg (by omega), if_neg (by omega)]
                exact ⟨rfl, rfl⟩
              obtain ⟨a1, a2⟩ := k2.1 e
              refine ⟨by rw [a1, List.length_cons]; omega, ?_⟩
              rw [List.append_assoc] at a2
              exact a2
            · have g' : ¬ yT B n k5 = kI 59 := fun e => g ((rR_sign r5).mpr e)
              rw [if_pos g'] at ep
              refine fault1 1 k5 M5 (fun i hi => by rw [a214, a215, if_neg (by omega), if_neg (by omega)]; exact ⟨rfl, rfl⟩) r5 ?_ (by decide) hs
              conv => lhs; unfold plL
              rw [if_neg n101, if_neg nrg, ep, if_neg (show ¬ (1 : Nat) = 0 by decide)]
          -- with a number
          have withNum : ∀ (a : Int32), (yT B n k = kI 25 ∨ yT B n k = kI 28) → a = (if yT B n k = kI 28 then kI 1 else kI 9) →
              (tIf ((M3 188 27) = (kI 3)) (tIf ((M3 188 28) ≤ a) (tGd (pIn ((kI 96) + x1) 120) <| tPut (aPut M3 215 (ix ((kI 96) + x1)) (M3 188 28)) fun M4 => tCall (D_65 M4) fun _ M5 => tIf (¬ (f_68 (kI 59) M5) = 0) (tCall (D_65 M5) fun _ M6 => P1 (x1 + (kI 1)) M6) (tCall (D_66 (kI 1) M5) fun v3 M6 => tRet v3 M6)) (tCall (D_66 (kI 2) M3) fun v2 M4 => tRet v2 M4)) (tCall (D_66 (kI 1) M3) fun v2 M4 => tRet v2 M4)) v N → rPl M N B n line (m + 1) k acc v := by
            intro a hT ha hs
            rcases hs with ⟨g4, hs⟩ | ⟨g4, hs⟩
            · have t100 := n1.1.mp g4
              have v1 := n1.2 g4
              rcases hs with ⟨g5, _, M4, e4, _, M5, h65b, hs⟩ | ⟨g5, hs⟩
              · rw [v1] at g5
                rw [ei] at e4
                have f4 : pFr [(215, 999)] M3 M4 := fun b j h1 h2 h3 => by
                  rw [e4, aPut_cell (fun e => by subst e; have h3 : false = true := h3; cases h3)]
                have r4 : rR M4 B n (k + 1) := rR_fr r3 f4 rfl (fun j => rfl)
                have r5 := rR_next r4 h65b
                have f5 := F_65 h65b
                refine go M5 (k + 2) (yV B n (k + 1)) r5 (fun i => ?_) (fun i => ?_) ?_ hs
                · rw [f5 214 i (by decide) rfl rfl, e4, aPut_cell (by decide)]
                  exact w214 i
                · rw [f5 215 i (by decide) rfl rfl, e4, aPut_row, w215 i, v1]
                  by_cases c : i = 96 + line
                  · rw [if_pos c, if_pos c]
                  · rw [if_neg c, if_neg c, if_neg c]
                · unfold plOne
                  rw [if_pos hT, if_neg (nn t100), if_neg (nn (by rw [← ha]; exact g5))]
              · rw [v1] at g5
                refine fault1 2 (k + 1) M3 row3 r3 ?_ (by decide) hs
                conv => lhs; unfold plL
                have ep : plOne (yT B n) (yV B n) k = (2, k + 1, (kI 0, kI 0)) := by
                  unfold plOne
                  rw [if_pos hT, if_neg (nn t100), if_pos (by rw [← ha]; exact g5)]
                rw [if_neg n101, if_neg nrg, ep, if_neg (show ¬ (2 : Nat) = 0 by decide)]
            · have t100 : ¬ yT B n (k + 1) = kI 100 := fun e => g4 (n1.1.mpr e)
              refine fault1 1 (k + 1) M3 row3 r3 ?_ (by decide) hs
              conv => lhs; unfold plL
              have ep : plOne (yT B n) (yV B n) k = (1, k + 1, (kI 0, kI 0)) := by
                unfold plOne
                rw [if_pos hT, if_pos t100]
              rw [if_neg n101, if_neg nrg, ep, if_neg (show ¬ (1 : Nat) = 0 by decide)]
          have e7 : (M 188 28 = kI 7) ↔ yT B n k = kI 25 := by rw [yk (by decide) (by decide), yk (by decide) (by decide)]; omega
          have e10 : (M 188 28 = kI 10) ↔ yT B n k = kI 28 := by rw [yk (by decide) (by decide), yk (by decide) (by decide)]; omega
          rcases hs with ⟨g4, hs⟩ | ⟨g4, hs⟩
          · have t25 := e7.mp g4
            have n28 : ¬ yT B n k = kI 28 := by rw [t25]; decide
            have n10 : ¬ M 188 28 = kI 10 := fun e => n28 (e10.mp e)
            refine withNum (kI 9) (Or.inl t25) (by rw [if_neg n28]) ?_
            rcases hs with ⟨g5, hs⟩ | ⟨g5, hs⟩
            · exact Or.inl ⟨g5, tIf_p n10 hs⟩
            · exact Or.inr ⟨g5, hs⟩
          · have n25 : ¬ yT B n k = kI 25 := fun e => g4 (e7.mpr e)
            rcases hs with ⟨g5, hs⟩ | ⟨g5, hs⟩
            · have n28 : ¬ yT B n k = kI 28 := fun e => g5 (e10.mpr e)
              refine go M3 (k + 1) (kI 0) r3 w214 w215 ?_ hs
              unfold plOne
              rw [if_neg (fun e => e.elim n25 n28)]
            · have g5 := Classical.not_not.mp g5
              have t28 := e10.mp g5
              refine withNum (kI 1) (Or.inr t28) (by rw [if_pos t28]) ?_
              rcases hs with ⟨g6, hs⟩ | ⟨g6, hs⟩
              · exact Or.inl ⟨g6, tIf_n (nn g5) hs⟩
              · exact Or.inr ⟨g6, hs⟩
      · have g3 := Classical.not_not.mp g3
        rw [yk (by decide) (by decide), hx] at g3
        have em : m = 0 := by omega
        subst em
        refine fault1 3 k M (fun _ _ => ⟨rfl, rfl⟩) hr ?_ (by decide) hs
        unfold plL
        rw [if_neg n101, if_neg nrg]
theorem D_79_w {B : Nat → Int32} {n k : Nat} {M : pMem} {v : Int32} {N : pMem} (hr : rR M B n k) (h : D_79 M v N) : rPl M N B n 0 24 k [] v :=
  (h (fun x1 M v N => ∀ (line m k : Nat) (acc : List (Int32 × Int32)), x1.toInt = line → line + m = 24 → acc.length = line → rR M B n k → rlOk (M 214) (M 215) 96 acc → rPl M N B n line m k acc v)
    (fun x1 M v N hs line m k acc h1 h2 h3 h4 h5 => S_79_w (fun _ _ _ _ q => q) hs h1 h2 h3 h4 h5)) 0 24 k [] rfl rfl rfl hr (fun i w hw => by cases hw)
/-! text: a plan, both sides -/
theorem D_170_w {M : pMem} {n : Nat} (hn : n ≤ 500) (hM : (M 1 0).toInt = n) {v : Unit} {N : pMem} (h : D_170 M v N) : ∃ c, rdR N (M 2) n c 0 ∧ N 6 4 = kI 0 ∧ N 6 5 = kI (-1) := by
  obtain ⟨_, M1, h195, M2, e2, M3, e3, M4, e4, _, hN⟩ := h
  have f1 := F_195 h195
  obtain ⟨c, c1, c2, c3⟩ := D_195_w hn hM h195
  subst hN
  have r : ∀ a j, a ≠ 6 → N a j = M1 a j := fun a j h => by rw [e4, aPut_cell h, e3, aPut_cell h, e2, aPut_cell h]
  refine ⟨c, ⟨⟨by rw [r 1 1 (by decide)]; exact c3.1, fun k hk => ?_⟩, c2, c1, hn, ?_, by rw [r 1 0 (by decide), f1 1 0 (by decide) rfl rfl]; exact hM⟩, ?_, ?_⟩
  · rw [r 3 k (by decide), r 4 k (by decide), r 5 k (by decide)]
    exact c3.2 k hk
  · rw [e4, aPut_at (by decide), e3, aPut_at (by decide), e2, aPut_same]
    rfl
  · rw [e4, aPut_at (by decide), e3, aPut_same]
  · rw [e4, aPut_same]
/-- the tape of both sides -/
def rTape (M : pMem) : Prop := M 1 0 = M 188 24 ∧ (∀ i, i < 500 → M 2 i = M 202 i) ∧ 0 ≤ (M 1 0).toInt ∧ (M 1 0).toInt ≤ 500 ∧ (∀ i, i < 500 → 0 ≤ (M 202 i).toInt) ∧ xWs (M 203)
/-- a plan of both sides: rows of the reference W, A from b on, so many -/
def rPlan (M : pMem) (pl : Nat) (m : Int32) (W A : Nat → Int32) (b : Nat) : Prop := ∃ l : List (Int32 × Int32), l.length ≤ 24 ∧ m.toInt = l.length ∧ rlOk W A b l ∧ pdOk M pl (l.foldl plDay ([], kI (-1))).1
theorem plL_len {T V : Nat → Int32} : ∀ (m k : Nat), (plL T V m k).2.2.length ≤ m := by
  intro m
  induction m with
  | zero =>
    intro k
    unfold plL
    split
    · exact Nat.le_refl _
    · split
      · exact Nat.le_refl _
      · exact Nat.le_refl _
  | succ m ih =>
    intro k
    unfold plL
    split
    · exact Nat.zero_le _
    · split
      · exact Nat.zero_le _
      · split
        · show (plL T V m _).2.2.length + 1 ≤ m + 1
          have := ih (plOne T V k).2.1
          omega
        · exact Nat.zero_le _
theorem f_33_iff {x : Int32} : ¬ f_33 x = 0 ↔ 0 ≤ x.toInt ∧ x.toInt < 4 := by
  unfold f_33
  simp only [i_le, i_lt, kI_toInt (n := 4) (by decide) (by decide), i_0]
  by_cases h1 : x.toInt < 0
  · rw [if_pos h1]
    exact ⟨fun h => absurd rfl h, fun h => by omega⟩
  · by_cases h2 : 4 ≤ x.toInt
    · rw [if_neg h1, if_pos h2]
      exact ⟨fun h => absurd rfl h, fun h => by omega⟩
    · rw [if_neg h1, if_neg h2]
      exact ⟨fun _ => by omega, fun _ => by decide⟩
/-- the class's text of a plan -/
theorem D_7_plan {M : pMem} {n k : Nat} {p1 p2 : Int32} (hn : n ≤ 500) (hM : (M 1 0).toInt = n) (h1 : p1 = kI 1) (hk : p2.toInt = k) (hk4 : k < 4) {v : Int32} {N : pMem} (h : D_7 p1 p2 M v N) :
    ((plL (yT (M 2) n) (yV (M 2) n) 24 0).1 = 0 → v.toInt = ((plL (yT (M 2) n) (yV (M 2) n) 24 0).2.2.length : Nat) ∧ N 6 4 = kI 0 ∧ N 6 5 = kI (-1) ∧ pdOk N (37 + 11 * k) ((plL (yT (M 2) n) (yV (M 2) n) 24 0).2.2.foldl plDay ([], kI (-1))).1) ∧
    (¬ (plL (yT (M 2) n) (yV (M 2) n) 24 0).1 = 0 → v = kI (-1) ∧ N 6 4 = kI (plL (yT (M 2) n) (yV (M 2) n) 24 0).1 ∧ N 6 5 = kI (xSt (M 2) n (plL (yT (M 2) n) (yV (M 2) n) 24 0).2.1) ∧ ∀ a, (37 + 11 * k ≤ a ∧ a ≤ 40 + 11 * k) → N a 0 = M a 0 ∧ (¬ a = 37 + 11 * k → N a = M a)) ∧ N 1 0 = kI 0 := by
  obtain ⟨_, M1, h170, h⟩ := h
  obtain ⟨c, z1, z2, z3⟩ := D_170_w hn hM h170
  have f1 := F_170 h170
  have h := tIf_p (by rw [h1]; decide) h
  have h := tIf_n (nn h1) h
  have h := tIf_n (f_33_iff.mpr (by omega)) h
  obtain ⟨_, v2, M2, h181, M3, e3, hv, hN⟩ := h
  rw [ix_of hk] at h181
  have hpl : 37 + 11 * k = 37 ∨ 37 + 11 * k = 48 ∨ 37 + 11 * k = 59 ∨ 37 + 11 * k = 70 := by omega
  obtain ⟨w1, w2⟩ := D_181_w hpl z1 h181
  rw [hv, hN]
  refine ⟨fun e => ?_, fun e => ?_, ?_⟩
  · obtain ⟨a1, a2, a3, a4⟩ := w1 e
    refine ⟨by rw [a1, Nat.zero_add], by rw [e3, aPut_cell (by decide), a2, z2], by rw [e3, aPut_cell (by decide), a3, z3], ?_⟩
    rw [e3]
    exact pdOk_eq a4 (aPut_cell (by omega)) (fun i => ⟨aPut_cell (by omega), aPut_cell (by omega), aPut_cell (by omega)⟩)
  · obtain ⟨a1, a2, a3, a4, a5⟩ := w2 e
    have r : ∀ a j, (37 + 11 * k ≤ a ∧ a ≤ 40 + 11 * k) → M1 a j = M a j := fun a j ha => by
      obtain ⟨o, ho, rfl⟩ : ∃ o, o < 4 ∧ a = 37 + 11 * k + o := ⟨a - (37 + 11 * k), by omega, by omega⟩
      exact f1 _ j (by omega) (pl_scr hk4 ho) (by simp only [l_170, pOut_cons, pOut_nil, true_or, and_true]; omega)
    refine ⟨a1, by rw [e3, aPut_cell (by decide), a2], by rw [e3, aPut_cell (by decide), a3], fun a ha => ?_⟩
    have hc : ∀ j, M3 a j = M2 a j := fun j => by rw [e3, aPut_cell (by omega)]
    have h3 : a = 37 + 11 * k ∨ a = 37 + 11 * k + 1 ∨ a = 37 + 11 * k + 2 ∨ a = 37 + 11 * k + 3 := by omega
    refine ⟨?_, fun q => ?_⟩
    · rw [hc, ← r a 0 ha]
      rcases h3 with rfl | rfl | rfl | rfl
      · exact a4
      · exact (a5 0).1
      · exact (a5 0).2.1
      · exact (a5 0).2.2
    · funext j
      rw [hc, ← r a j ha]
      rcases h3 with rfl | rfl | rfl | rfl
      · exact absurd rfl q
      · exact (a5 j).1
      · exact (a5 j).2.1
      · exact (a5 j).2.2
  · rw [e3, aPut_same]
/-- takesPlan -/
theorem D_80_w {M0 : pMem} {k n : Nat} {p1 p2 : Int32} (hk : p1.toInt = k) (hk4 : k < 4) (hn : p2.toInt = n) (hn24 : n ≤ 24) {v : Unit} {N : pMem} (h : D_80 p1 p2 M0 v N) :
    (N 213 k).toInt = n ∧ ∀ i, (i < n → N 214 (24 * k + i) = M0 214 (96 + i) ∧ N 215 (24 * k + i) = M0 215 (96 + i)) ∧ ((i < 24 * k ∨ 24 * k + 24 ≤ i) → N 214 i = M0 214 i ∧ N 215 i = M0 215 i) := by
  have g := (h (fun x3 M v N => ∀ i : Nat, x3.toInt = i → i ≤ n → (∀ j, ¬ (24 * k + i ≤ j ∧ j < 24 * k + 24) → N 214 j = M 214 j ∧ N 215 j = M 215 j) ∧ (N 213 k).toInt = n ∧ ∀ j, i ≤ j → j < n → N 214 (24 * k + j) = M 214 (96 + j) ∧ N 215 (24 * k + j) = M 215 (96 + j)) ?_) 0 rfl (Nat.zero_le _)
  · obtain ⟨g1, g2, g3⟩ := g
    refine ⟨g2, fun i => ⟨fun hi => g3 i (Nat.zero_le _) hi, fun hi => g1 i (by omega)⟩⟩
  · intro x3 M v N hs i hx hi
    rcases hs with ⟨g, _, M1, e1, _, hN⟩ | ⟨g, _, _, M1, e1, _, _, M2, e2, hs⟩
    · rw [i_le, hn, hx] at g
      subst hN
      refine ⟨fun j _ => by rw [e1]; exact ⟨aPut_cell (by decide), aPut_cell (by decide)⟩, ?_, fun j h1 h2 => by omega⟩
      rw [e1, ix_of hk, aPut_same]
      exact hn
    · rw [i_le, hn, hx] at g
      have e24 : (kI 24 * p1).toInt = ((24 * k : Nat) : Int) := by rw [i_mul (by rw [hk, kI_toInt (by decide) (by decide)]; omega) (by rw [hk, kI_toInt (by decide) (by decide)]; omega), hk, kI_toInt (by decide) (by decide)]; omega
      have ea : ix (kI 24 * p1 + x3) = 24 * k + i := ix_of (by rw [i_add (by omega) (by omega), e24, hx]; omega)
      have eb : ix (kI 96 + x3) = 96 + i := ix_of (by rw [i_add (by rw [kI_toInt (by decide) (by decide)]; omega) (by rw [kI_toInt (by decide) (by decide)]; omega), kI_toInt (by decide) (by decide), hx]; omega)
      rw [ea, eb] at e1 e2
      have hs := hs (i + 1) (by rw [i_add1 (by omega)]; omega) (by omega)
      have a214 : ∀ j, M2 214 j = if j = 24 * k + i then M 214 (96 + i) else M 214 j := fun j => by rw [e2, aPut_cell (by decide), e1, aPut_row]
      have a215 : ∀ j, M2 215 j = if j = 24 * k + i then M 215 (96 + i) else M 215 j := fun j => by rw [e2, aPut_row, e1, aPut_cell (by decide), aPut_cell (by decide)]
      obtain ⟨h1, h2, h3⟩ := hs
      refine ⟨fun j hj => ?_, h2, fun j hj1 hj2 => ?_⟩
      · rw [(h1 j (by omega)).1, (h1 j (by omega)).2, a214, a215, if_neg (by omega), if_neg (by omega)]
        exact ⟨rfl, rfl⟩
      · by_cases c : j = i
        · subst c
          rw [(h1 (24 * k + j) (by omega)).1, (h1 (24 * k + j) (by omega)).2, a214, a215, if_pos rfl, if_pos rfl]
          exact ⟨rfl, rfl⟩
        · obtain ⟨q1, q2⟩ := h3 j (by omega) hj2
          rw [q1, q2, a214, a215, if_neg (by omega), if_neg (by omega)]
          exact ⟨rfl, rfl⟩
/-- the reference's text of a plan -/
theorem D_81_plan {M : pMem} {B : Nat → Int32} {n k : Nat} {p1 p2 : Int32} (hn : n ≤ 500) (hp : xPre M B n) (hB : ∀ i, i < n → 0 ≤ (B i).toInt) (h1 : p1 = kI 1) (hk : p2.toInt = k) (hk4 : k < 4) {v : Int32} {N : pMem} (h : D_81 p1 p2 M v N) :
    ((plL (yT B n) (yV B n) 24 0).1 = 0 → v.toInt = ((plL (yT B n) (yV B n) 24 0).2.2.length : Nat) ∧ N 188 44 = kI 0 ∧ N 188 45 = kI (-1) ∧ (N 213 k).toInt = ((plL (yT B n) (yV B n) 24 0).2.2.length : Nat) ∧ rlOk (N 214) (N 215) (24 * k) (plL (yT B n) (yV B n) 24 0).2.2 ∧
      (∀ i, i < 96 → (i < 24 * k ∨ 24 * k + 24 ≤ i) → N 214 i = M 214 i ∧ N 215 i = M 215 i) ∧ ∀ i, ¬ i = k → N 213 i = M 213 i) ∧
    (¬ (plL (yT B n) (yV B n) 24 0).1 = 0 → v = kI (-1) ∧ N 188 44 = kI (plL (yT B n) (yV B n) 24 0).1 ∧ N 188 45 = kI (xSt B n (plL (yT B n) (yV B n) 24 0).2.1) ∧ N 213 = M 213 ∧ ∀ i, i < 96 → N 214 i = M 214 i ∧ N 215 i = M 215 i) ∧ N 188 24 = kI 0 := by
  obtain ⟨M1, e1, M2, e2, M3, e3, h⟩ := h
  have h := tIf_n (f_42_iff.mpr (by rw [h1]; decide)) h
  have h := tIf_n (f_42_iff.mpr (by rw [i_le, i_le, hk, kI_toInt (by decide) (by decide), kI_toInt (by decide) (by decide)]; omega)) h
  obtain ⟨M4, e4, M5, e5, M6, e6, _, M7, h65, h⟩ := h
  have h := tIf_p (show ¬ p1 = 0 by rw [h1]; decide) h
  obtain ⟨v2, M8, h79, h⟩ := h
  have p6 : xPre M6 B n := by
    rw [e6, e5, e4, e3, e2, e1]
    exact xPre_put (xPre_put (xPre_put (xPre_put (xPre_put (xPre_put hp (by decide)) (by decide)) (by decide)) (by decide)) (by decide)) (by decide)
  have f7 := F_65 h65
  have r7 : rR M7 B n 0 := by
    have q := D_65_w hn hB h65 p6 0 (by rw [e6, aPut_at (by decide), e5, aPut_at (by decide), e4, aPut_same]; rfl) (Nat.zero_le _)
    refine ⟨?_, hn, hB, q⟩
    obtain ⟨q1, q2, q3⟩ := p6
    refine ⟨by rw [f7 188 24 (by decide) rfl rfl]; exact q1, ?_, fun j hj => ?_⟩
    · rw [← q2]
      funext i
      exact f7 202 i (by decide) rfl rfl
    · rw [f7 203 j (by decide) rfl rfl]
      exact q3 j hj
  have row : ∀ a j, a ≠ 188 → a < 230 → pScr a j = false → M7 a j = M a j := fun a j h1 h2 h3 => by
    rw [f7 a j h2 h3 (by
      show (!(Nat.beq 188 a && _) && (!(Nat.beq 188 a && _) && (!(Nat.beq 188 a && _) && (!(Nat.beq 188 a && _) && true)))) = true
      rw [show Nat.beq 188 a = false from Bool.eq_false_iff.mpr fun q => h1 (Nat.eq_of_beq_eq_true q).symm]
      rfl), e6, aPut_cell h1, e5, aPut_cell h1, e4, aPut_cell h1, e3, aPut_cell h1, e2, aPut_cell h1, e1, aPut_cell h1]
  obtain ⟨w1, w2, w3⟩ := D_79_w r7 h79
  have f8 := F_79 h79
  have k44 : M8 188 44 = kI 0 := by
    rw [f8 188 44 (by decide) rfl rfl, f7 188 44 (by decide) rfl rfl, e6, aPut_at (by decide), e5, aPut_at (by decide), e4, aPut_at (by decide), e3, aPut_at (by decide), e2, aPut_same]
  have k45 : M8 188 45 = kI (-1) := by
    rw [f8 188 45 (by decide) rfl rfl, f7 188 45 (by decide) rfl rfl, e6, aPut_at (by decide), e5, aPut_at (by decide), e4, aPut_at (by decide), e3, aPut_same]
  have k213 : M8 213 = M 213 := by
    funext i
    rw [f8 213 i (by decide) rfl rfl]
    exact row 213 i (by decide) (by decide) rfl
  have k214 : ∀ i, i < 96 → M8 214 i = M 214 i ∧ M8 215 i = M 215 i := fun i hi => ⟨(w3 i hi).1.trans (row 214 i (by decide) (by decide) rfl), (w3 i hi).2.trans (row 215 i (by decide) (by decide) rfl)⟩
  -- the rest of text
  refine h (fun x3 s0 M' v N => x3 = kI 1 → s0 = v2 → M' = M8 → ((plL (yT B n) (yV B n) 24 0).1 = 0 → v.toInt = ((plL (yT B n) (yV B n) 24 0).2.2.length : Nat) ∧ N 188 44 = kI 0 ∧ N 188 45 = kI (-1) ∧ (N 213 k).toInt = ((plL (yT B n) (yV B n) 24 0).2.2.length : Nat) ∧ rlOk (N 214) (N 215) (24 * k) (plL (yT B n) (yV B n) 24 0).2.2 ∧
      (∀ i, i < 96 → (i < 24 * k ∨ 24 * k + 24 ≤ i) → N 214 i = M 214 i ∧ N 215 i = M 215 i) ∧ ∀ i, ¬ i = k → N 213 i = M 213 i) ∧
    (¬ (plL (yT B n) (yV B n) 24 0).1 = 0 → v = kI (-1) ∧ N 188 44 = kI (plL (yT B n) (yV B n) 24 0).1 ∧ N 188 45 = kI (xSt B n (plL (yT B n) (yV B n) 24 0).2.1) ∧ N 213 = M 213 ∧ ∀ i, i < 96 → N 214 i = M 214 i ∧ N 215 i = M 215 i) ∧ N 188 24 = kI 0) ?_ rfl rfl rfl
  intro x3 s0 M' v N hs hx hs0 hM'
  subst hM'
  obtain ⟨Ma, ea, hs⟩ := hs
  have hs := tIf_n (show ¬ x3 = 0 by rw [hx]; decide) hs
  have len24 := plL_len (T := yT B n) (V := yV B n) 24 0
  by_cases c : (plL (yT B n) (yV B n) 24 0).1 = 0
  · obtain ⟨a1, a2⟩ := w1 c
    rw [Nat.zero_add] at a1
    have hne : ¬ s0 = kI (-1) := by
      rw [hs0, yk (by decide) (by decide), a1]
      omega
    have hs := tIf_p hne hs
    have hs := tIf_p hne hs
    have hs := tIf_p (show ¬ p1 = 0 by rw [h1]; decide) hs
    obtain ⟨_, Mb, h80, hv, hN⟩ := hs
    rw [hs0] at h80
    obtain ⟨b1, b2⟩ := D_80_w hk hk4 a1 len24 h80
    have f80 := F_80 h80
    subst hN
    refine ⟨fun _ => ⟨by rw [hv, hs0]; exact a1, ?_, ?_, b1, fun i w hw => ?_, fun i hi hr => ?_, fun i hi => ?_⟩, fun e => absurd c e, ?_⟩
    · rw [f80 188 44 (by decide) rfl rfl, ea, aPut_at (by decide)]
      exact k44
    · rw [f80 188 45 (by decide) rfl rfl, ea, aPut_at (by decide)]
      exact k45
    · have hi := (List.getElem?_eq_some_iff.mp hw).1
      rw [((b2 i).1 hi).1, ((b2 i).1 hi).2, ea, aPut_cell (by decide), aPut_cell (by decide)]
      have := a2 i w (by rw [List.nil_append]; exact hw)
      exact this
    · rw [((b2 i).2 hr).1, ((b2 i).2 hr).2, ea, aPut_cell (by decide), aPut_cell (by decide)]
      exact k214 i hi
    · -- other plans' numbers of lines
      have g := (h80 (fun x3 M v N => ∀ i, ¬ i = k → N 213 i = M 213 i) (fun x3 M v N hs i hi => by
        rcases hs with ⟨_, _, M1, e1, _, hN⟩ | ⟨_, _, _, M1, e1, _, _, M2, e2, hs⟩
        · rw [hN, e1, ix_of hk, aPut_at hi]
        · rw [hs i hi, e2, aPut_cell (by decide), e1, aPut_cell (by decide)])) i hi
      rw [g, ea, aPut_cell (by decide), k213]
    · rw [f80 188 24 (by decide) rfl rfl, ea, aPut_same]
  · obtain ⟨a1, a2, a3⟩ := w2 c
    have he : s0 = kI (-1) := by rw [hs0, a1]
    have hs := tIf_n (nn he) hs
    obtain ⟨Mb, eb, Mc, ec, hs⟩ := hs
    have hs := tIf_n (nn he) hs
    obtain ⟨hv, hN⟩ := hs
    subst hN
    have rr : ∀ a j, a ≠ 188 → N a j = M' a j := fun a j h => by rw [ec, aPut_cell h, eb, aPut_cell h, ea, aPut_cell h]
    refine ⟨fun e => absurd e c, fun _ => ⟨hv, ?_, ?_, ?_, fun i hi => ?_⟩, ?_⟩
    · rw [ec, aPut_at (by decide), eb, aPut_same, ea, aPut_at (by decide)]
      exact a2
    · rw [ec, aPut_same, eb, aPut_at (by decide), ea, aPut_at (by decide)]
      exact a3
    · funext i
      rw [rr 213 i (by decide), k213]
    · rw [rr 214 i (by decide), rr 215 i (by decide)]
      exact k214 i hi
    · rw [ec, aPut_at (by decide), eb, aPut_at (by decide), ea, aPut_same]
/-! what both sides have in common between calls (tape, boys, days, state, plans), and the calls that keep to it -/
def rNow (M : pMem) : Prop := M 19 0 = M 188 2 ∧ M 19 4 = M 188 3 ∧ M 19 5 = M 188 1 ∧ (0 ≤ (M 19 0).toInt ∧ (M 19 0).toInt ≤ 24) ∧ 0 ≤ (M 19 4).toInt ∧ (M 19 4).toInt ≤ 60
def rImg (M : pMem) : Prop := M 75 0 = M 229 4460 ∧ M 75 4 = M 229 7001 ∧ M 75 5 = M 229 7000 ∧ (0 ≤ (M 75 0).toInt ∧ (M 75 0).toInt ≤ 24) ∧ 0 ≤ (M 75 4).toInt ∧ (M 75 4).toInt ≤ 60
def rTk (M : pMem) : Prop := M 0 8 = M 188 77 ∧ (M 0 8 = kI 0 ∨ M 0 8 = kI 1)
def rPn (M : pMem) : Prop := ∀ k, k < 4 → rPlan M (37 + 11 * k) (M 213 k) (M 214) (M 215) (24 * k)
def rPi (M : pMem) : Prop := (∀ k, k < 4 → rPlan M (93 + 11 * k) (M 229 (3 * k + 2)) (fun i => M 229 (2 * i + 4268)) (fun i => M 229 (2 * i + 4269)) (24 * k)) ∧ ∀ b, b < 24 → bo (M 226 b) ∧ bo (M 229 (4470 + 5 * b))
def rA (M : pMem) : Prop := rTape M ∧ rNow M ∧ rImg M ∧ rTk M ∧ rPn M ∧ rPi M
/-- no place of a row -/
def pNo (L : List (Nat × Nat)) (a : Nat) : Bool := L.all fun p => !Nat.beq p.1 a
theorem pNo_out {L : List (Nat × Nat)} {a : Nat} (h : pNo L a = true) (j : Nat) : pOut L a j = true := by
  refine List.all_eq_true.mpr fun p hp => ?_
  have := List.all_eq_true.mp h p hp
  simp only [Bool.not_eq_true'] at this
  rw [this]
  rfl
def kTape (L : List (Nat × Nat)) : Bool := pOut L 1 0 && (pOut L 188 24 && (pNo L 2 && (pNo L 202 && pNo L 203)))
def kNow (L : List (Nat × Nat)) : Bool := pOut L 19 0 && (pOut L 19 4 && (pOut L 19 5 && (pOut L 188 1 && (pOut L 188 2 && pOut L 188 3))))
def kImg (L : List (Nat × Nat)) : Bool := pOut L 75 0 && (pOut L 75 4 && (pOut L 75 5 && pNo L 229))
def kTk (L : List (Nat × Nat)) : Bool := pOut L 0 8 && pOut L 188 77
def kPn (L : List (Nat × Nat)) : Bool := (List.range 4).all (fun k => (List.range 4).all fun o => pNo L (37 + 11 * k + o)) && (pNo L 213 && (pNo L 214 && pNo L 215))
def kPi (L : List (Nat × Nat)) : Bool := (List.range 4).all (fun k => (List.range 4).all fun o => pNo L (93 + 11 * k + o)) && (pNo L 229 && pNo L 226)
section RA
variable {M N : pMem} {L : List (Nat × Nat)}
theorem rTape_fr (f : pFr L M N) (k : kTape L = true) (h : rTape M) : rTape N := by
  unfold kTape at k
  simp only [Bool.and_eq_true] at k
  obtain ⟨k1, k2, k3, k4, k5⟩ := k
  have e1 : N 1 0 = M 1 0 := f 1 0 (by decide) rfl k1
  have e2 : N 188 24 = M 188 24 := f 188 24 (by decide) rfl k2
  have e3 : N 2 = M 2 := funext fun i => f 2 i (by decide) rfl (pNo_out k3 i)
  have e4 : N 202 = M 202 := funext fun i => f 202 i (by decide) rfl (pNo_out k4 i)
  have e5 : N 203 = M 203 := funext fun i => f 203 i (by decide) rfl (pNo_out k5 i)
  unfold rTape
  rw [e1, e2, e3, e4, e5]
  exact h
theorem rNow_fr (f : pFr L M N) (k : kNow L = true) (h : rNow M) : rNow N := by
  unfold kNow at k
  simp only [Bool.and_eq_true] at k
  obtain ⟨k1, k2, k3, k4, k5, k6⟩ := k
  unfold rNow
  rw [f 19 0 (by decide) rfl k1, f 19 4 (by decide) rfl k2, f 19 5 (by decide) rfl k3, f 188 1 (by decide) rfl k4, f 188 2 (by decide) rfl k5, f 188 3 (by decide) rfl k6]
  exact h
theorem rImg_fr (f : pFr L M N) (k : kImg L = true) (h : rImg M) : rImg N := by
  unfold kImg at k
  simp only [Bool.and_eq_true] at k
  obtain ⟨k1, k2, k3, k4⟩ := k
  unfold rImg
  rw [f 75 0 (by decide) rfl k1, f 75 4 (by decide) rfl k2, f 75 5 (by decide) rfl k3, f 229 4460 (by decide) rfl (pNo_out k4 _), f 229 7001 (by decide) rfl (pNo_out k4 _), f 229 7000 (by decide) rfl (pNo_out k4 _)]
  exact h
theorem rTk_fr (f : pFr L M N) (k : kTk L = true) (h : rTk M) : rTk N := by
  unfold kTk at k
  simp only [Bool.and_eq_true] at k
  unfold rTk
  rw [f 0 8 (by decide) rfl k.1, f 188 77 (by decide) rfl k.2]
  exact h
/-- a plan of both sides stays, where its rows stay -/
theorem rPlan_eq {pl b : Nat} {m m' : Int32} {W A W' A' : Nat → Int32} (h : rPlan M pl m W A b) (hm : m' = m) (h0 : N pl 0 = M pl 0) (h1 : ∀ i, N (pl + 1) i = M (pl + 1) i ∧ N (pl + 2) i = M (pl + 2) i ∧ N (pl + 3) i = M (pl + 3) i) (hw : ∀ i, i < 24 → W' (b + i) = W (b + i) ∧ A' (b + i) = A (b + i)) : rPlan N pl m' W' A' b := by
  obtain ⟨l, l1, l2, l3, l4⟩ := h
  refine ⟨l, l1, by rw [hm]; exact l2, fun i w hi => ?_, pdOk_eq l4 h0 h1⟩
  have := (List.getElem?_eq_some_iff.mp hi).1
  rw [(hw i (by omega)).1, (hw i (by omega)).2]
  exact l3 i w hi
theorem rPn_fr (f : pFr L M N) (k : kPn L = true) (h : rPn M) : rPn N := by
  unfold kPn at k
  simp only [Bool.and_eq_true] at k
  obtain ⟨k1, k2, k3, k4⟩ := k
  intro a ha
  have c : ∀ o j, o < 4 → N (37 + 11 * a + o) j = M (37 + 11 * a + o) j := fun o j ho =>
    f _ _ (by omega) (pl_scr ha ho) (pNo_out (List.all_eq_true.mp (List.all_eq_true.mp k1 a (List.mem_range.mpr ha)) o (List.mem_range.mpr ho)) j)
  exact rPlan_eq (h a ha) (f 213 a (by decide) rfl (pNo_out k2 a)) (c 0 0 (by omega)) (fun i => ⟨c 1 i (by omega), c 2 i (by omega), c 3 i (by omega)⟩) (fun i _ => ⟨f 214 _ (by decide) rfl (pNo_out k3 _), f 215 _ (by decide) rfl (pNo_out k4 _)⟩)
theorem rPi_fr (f : pFr L M N) (k : kPi L = true) (h : rPi M) : rPi N := by
  unfold kPi at k
  simp only [Bool.and_eq_true] at k
  obtain ⟨k1, k2, k3⟩ := k
  refine ⟨fun a ha => ?_, fun b hb => ?_⟩
  · have c : ∀ o j, o < 4 → N (93 + 11 * a + o) j = M (93 + 11 * a + o) j := fun o j ho =>
      f _ _ (by omega) (pi_scr ha ho) (pNo_out (List.all_eq_true.mp (List.all_eq_true.mp k1 a (List.mem_range.mpr ha)) o (List.mem_range.mpr ho)) j)
    exact rPlan_eq (h.1 a ha) (f 229 _ (by decide) rfl (pNo_out k2 _)) (c 0 0 (by omega)) (fun i => ⟨c 1 i (by omega), c 2 i (by omega), c 3 i (by omega)⟩) (fun i _ => ⟨f 229 _ (by decide) rfl (pNo_out k2 _), f 229 _ (by decide) rfl (pNo_out k2 _)⟩)
  · rw [f 226 b (by decide) rfl (pNo_out k3 _), f 229 (4470 + 5 * b) (by decide) rfl (pNo_out k2 _)]
    exact h.2 b hb
def kAll (L : List (Nat × Nat)) : Bool := kTape L && (kNow L && (kImg L && (kTk L && (kPn L && kPi L))))
theorem rA_fr (f : pFr L M N) (k : kAll L = true) (h : rA M) : rA N := by
  unfold kAll at k
  simp only [Bool.and_eq_true] at k
  obtain ⟨k1, k2, k3, k4, k5, k6⟩ := k
  exact ⟨rTape_fr f k1 h.1, rNow_fr f k2 h.2.1, rImg_fr f k3 h.2.2.1, rTk_fr f k4 h.2.2.2.1, rPn_fr f k5 h.2.2.2.2.1, rPi_fr f k6 h.2.2.2.2.2⟩
/-- all but what is told of boys, days, state -/
theorem rA_now (f : pFr L M N) (k : (kTape L && (kImg L && (kTk L && (kPn L && kPi L)))) = true) (h : rA M) (hn : rNow N) : rA N := by
  simp only [Bool.and_eq_true] at k
  obtain ⟨k1, k3, k4, k5, k6⟩ := k
  exact ⟨rTape_fr f k1 h.1, hn, rImg_fr f k3 h.2.2.1, rTk_fr f k4 h.2.2.2.1, rPn_fr f k5 h.2.2.2.2.1, rPi_fr f k6 h.2.2.2.2.2⟩
end RA
/-! the calls, one by one, over what both sides have in common -/
theorem f_46_eq (x : Int32) : f_46 x = f_32 x := rfl
theorem op_boy {p1 p2 v u : Int32} {M M1 M2 : pMem} (h : rA M) (h1 : D_1 p1 p2 M v M1) (h2 : D_47 p1 p2 M1 u M2) : v = u ∧ rA M2 := by
  obtain ⟨ht, hn, hr⟩ := h
  obtain ⟨n1, n2, n3, n4, n5⟩ := hn
  have f1 := F_1 h1
  have f2 := F_47 h2
  have k1 : (kTape l_1 && (kImg l_1 && (kTk l_1 && (kPn l_1 && kPi l_1)))) = true := by decide +kernel
  have k2 : (kTape l_47 && (kImg l_47 && (kTk l_47 && (kPn l_47 && kPi l_47)))) = true := by decide +kernel
  simp only [Bool.and_eq_true] at k1 k2
  have e2 : M1 188 2 = M 188 2 := f1 188 2 (by decide) rfl rfl
  have e3 : M1 188 3 = M 188 3 := f1 188 3 (by decide) rfl rfl
  have e1 : M1 188 1 = M 188 1 := f1 188 1 (by decide) rfl rfl
  have g19 : ∀ j, M2 19 j = M1 19 j := fun j => f2 19 j (by decide) rfl rfl
  have g1 : M2 188 1 = M1 188 1 := f2 188 1 (by decide) rfl rfl
  have g3 : M2 188 3 = M1 188 3 := f2 188 3 (by decide) rfl rfl
  have d4 : M1 19 4 = M 19 4 := f1 19 4 (by decide) rfl rfl
  have d5 : M1 19 5 = M 19 5 := f1 19 5 (by decide) rfl rfl
  -- what the two sides answer, and how many boys there are
  have key : v = u ∧ M2 19 0 = M2 188 2 ∧ 0 ≤ (M2 19 0).toInt ∧ (M2 19 0).toInt ≤ 24 := by
    obtain ⟨Ma, ea, h2⟩ := h2
    have a2 : Ma 188 2 = M 188 2 := by rw [ea, aPut_at (by decide)]; exact e2
    have a3 : Ma 188 3 = M 188 3 := by rw [ea, aPut_at (by decide)]; exact e3
    have a19 : ∀ j, Ma 19 j = M1 19 j := fun j => by rw [ea]; exact aPut_cell (by decide)
    -- refused by both
    have no : v = kI (-1) → M1 = M → (tRet (kI (-1)) Ma) u M2 → v = u ∧ M2 19 0 = M2 188 2 ∧ 0 ≤ (M2 19 0).toInt ∧ (M2 19 0).toInt ≤ 24 := by
      rintro rfl rfl ⟨rfl, rfl⟩
      rw [a19, a2]
      exact ⟨rfl, n1, n4⟩
    rcases h1 with ⟨c1, hv, hM⟩ | ⟨c1, h1⟩
    · rcases h2 with ⟨b1, h2⟩ | ⟨b1, h2⟩
      · exact no hv hM h2
      · exact absurd c1 b1
    · have h2 := tIf_n (show ¬ f_46 p1 = 0 from c1) h2
      rcases h1 with ⟨c2, hv, hM⟩ | ⟨c2, h1⟩
      · rcases h2 with ⟨b2, h2⟩ | ⟨b2, h2⟩
        · exact no hv hM h2
        · have := f_42_iff.mp b2
          rw [i_lt, i_0] at c2
          rw [i_le, i_le, kI_toInt (by decide) (by decide), kI_toInt (by decide) (by decide)] at this
          omega
      · rcases h1 with ⟨c3, hv, hM⟩ | ⟨c3, h1⟩
        · rcases h2 with ⟨b2, h2⟩ | ⟨b2, h2⟩
          · exact no hv hM h2
          · have := f_42_iff.mp b2
            rw [i_lt, kI_toInt (by decide) (by decide)] at c3
            rw [i_le, i_le, kI_toInt (by decide) (by decide), kI_toInt (by decide) (by decide)] at this
            omega
        · have h2 := tIf_n (f_42_iff.mpr (by rw [i_lt, i_0] at c2; rw [i_lt, kI_toInt (by decide) (by decide)] at c3; rw [i_le, i_le, kI_toInt (by decide) (by decide), kI_toInt (by decide) (by decide)]; omega)) h2
          rcases h1 with ⟨c4, hv, hM⟩ | ⟨c4, h1⟩
          · rw [i_le, kI_toInt (by decide) (by decide)] at c4
            rcases h2 with ⟨b4, h2⟩ | ⟨b4, h2⟩
            · exact no hv hM h2
            · rw [a2, ← n1, yk (by decide) (by decide)] at b4
              omega
          · rw [i_le, kI_toInt (by decide) (by decide)] at c4
            have h2 := tIf_n (by rw [a2, ← n1, yk (by decide) (by decide)]; omega) h2
            rcases h1 with ⟨c5, va, Mb, h221, hv, hM⟩ | ⟨c5, hv, hM⟩
            · have h2 := tIf_p (by rw [a3, ← n2]; exact c5) h2
              obtain ⟨_, M3, e3', _, M4, e4, _, M5, e5, _, M6, e6, M7, e7, hu, hN⟩ := h2
              have h221 := tIf_n (by rw [i_lt, i_0]; omega) h221
              have h221 := tIf_p (by rw [i_lt, kI_toInt (by decide) (by decide)]; omega) h221
              obtain ⟨Mc, ec, _, Md, ed, Me, ee, Mf, ef, Mg, eg, hva, hMb⟩ := h221
              have b6 : M6 188 2 = M 188 2 := by rw [e6, aPut_cell (by decide), e5, aPut_cell (by decide), e4, aPut_cell (by decide), e3', aPut_cell (by decide)]; exact a2
              have w0 : M1 19 0 = M 19 0 + kI 1 := by
                rw [hM, hMb, eg, aPut_at (by decide), ef, aPut_at (by decide), ee, aPut_at (by decide), ed, aPut_cell (by decide), ec, aPut_same]
              have r188 : M2 188 2 = M 188 2 + kI 1 := by rw [hN, e7, aPut_same, b6]
              have r19 : M2 19 0 = M 19 0 + kI 1 := by rw [g19]; exact w0
              have t1 : (M 19 0 + kI 1).toInt = (M 19 0).toInt + 1 := i_add1 (by omega)
              refine ⟨?_, by rw [r19, r188, n1], by rw [r19, t1]; omega⟩
              rw [hv, hva, hu, e7, aPut_same, b6, ← n1, i_eq, i_sub (by rw [t1, kI1]; omega) (by rw [t1, kI1]; omega), t1, kI1]
              omega
            · have h2 := tIf_n (by rw [a3, ← n2]; exact c5) h2
              exact no hv hM h2
  refine ⟨key.1, ?_⟩
  have hn2 : rNow M2 := by
    refine ⟨key.2.1, ?_, ?_, key.2.2, ?_⟩
    · rw [g19, d4, g3, e3]
      exact n2
    · rw [g19, d5, g1, e1]
      exact n3
    · rw [g19, d4]
      exact n5
  exact ⟨rTape_fr f2 k2.1 (rTape_fr f1 k1.1 ht), hn2, rImg_fr f2 k2.2.1 (rImg_fr f1 k1.2.1 hr.1), rTk_fr f2 k2.2.2.1 (rTk_fr f1 k1.2.2.1 hr.2.1), rPn_fr f2 k2.2.2.2.1 (rPn_fr f1 k1.2.2.2.1 hr.2.2.1), rPi_fr f2 k2.2.2.2.2 (rPi_fr f1 k1.2.2.2.2 hr.2.2.2)⟩
theorem op_state {p1 v u : Int32} {M M1 M2 : pMem} (h : rA M) (h1 : D_4 p1 M v M1) (h2 : D_50 p1 M1 u M2) : v = u ∧ rA M2 := by
  obtain ⟨ht, hn, hr⟩ := h
  obtain ⟨n1, n2, n3, n4, n5⟩ := hn
  have f1 := F_4 h1
  have f2 := F_50 h2
  obtain ⟨Ma, ea, hv, hM⟩ := h1
  obtain ⟨Mb, eb, Mc, ec, hu, hN⟩ := h2
  have k1 : (kTape l_4 && (kImg l_4 && (kTk l_4 && (kPn l_4 && kPi l_4)))) = true := by decide +kernel
  have k2 : (kTape l_50 && (kImg l_50 && (kTk l_50 && (kPn l_50 && kPi l_50)))) = true := by decide +kernel
  simp only [Bool.and_eq_true] at k1 k2
  refine ⟨?_, rTape_fr f2 k2.1 (rTape_fr f1 k1.1 ht), ?_, rImg_fr f2 k2.2.1 (rImg_fr f1 k1.2.1 hr.1), rTk_fr f2 k2.2.2.1 (rTk_fr f1 k1.2.2.1 hr.2.1), rPn_fr f2 k2.2.2.2.1 (rPn_fr f1 k1.2.2.2.1 hr.2.2.1), rPi_fr f2 k2.2.2.2.2 (rPi_fr f1 k1.2.2.2.2 hr.2.2.2)⟩
  · rw [hv, hu, eb, aPut_at (by decide), hM, ea, aPut_cell (by decide)]
    exact n3
  · have a : ∀ j, j ≠ 5 → M2 19 j = M 19 j := fun j hj => by rw [hN, ec, aPut_cell (by decide), eb, aPut_cell (by decide), hM, ea, aPut_at hj]
    have b : ∀ j, j ≠ 1 → j ≠ 0 → M2 188 j = M 188 j := fun j hj h0 => by rw [hN, ec, aPut_at hj, eb, aPut_at h0, hM, ea, aPut_cell (by decide)]
    refine ⟨by rw [a 0 (by decide), b 2 (by decide) (by decide)]; exact n1, by rw [a 4 (by decide), b 3 (by decide) (by decide)]; exact n2, ?_, by rw [a 0 (by decide)]; exact n4, by rw [a 4 (by decide)]; exact n5⟩
    rw [hN, ec, aPut_cell (by decide), eb, aPut_cell (by decide), hM, ea, aPut_same, aPut_same]
/-! days: how many, and what they do to the state -/
theorem pScrW {w : Nat} (h : pK 10 w = true) (j : Nat) : w < 230 ∧ pScr w j = false ∧ w ≠ 188 := by
  obtain ⟨h1, h2⟩ := pKi h
  have c : ∀ a, a < 230 → (pC a).1 = 10 → pScrA a = false ∧ a ≠ 188 := by decide +kernel
  obtain ⟨c1, c2⟩ := c w h1 h2
  refine ⟨h1, ?_, c2⟩
  unfold pScr
  rw [c1, show Nat.beq w 188 = false from Bool.eq_false_iff.mpr fun q => c2 (Nat.eq_of_beq_eq_true q)]
  rfl
def xDraw (x : Int32) : Int32 := kI 1664525 * x + kI 1013904223
theorem D_234_w {w : Nat} {M : pMem} {v : Int32} {N : pMem} (h : D_234 w M v N) : N w 5 = xDraw (M w 5) := by
  obtain ⟨M1, e1, _, _, hN⟩ := h
  rw [hN, e1, aPut_same]
  rfl
theorem D_233_w {w : Nat} (hw : pK 10 w = true) {p1 : Int32} {M : pMem} {v : Int32} {N : pMem} (h : D_233 w p1 M v N) : N w 5 = xDraw (M w 5) := by
  obtain ⟨v1, M1, h231, _, v2, M2, h234, hL⟩ := h
  have f1 := F_231 hw h231
  obtain ⟨w1, w2, _⟩ := pScrW hw 5
  have e : N = M2 := hL (fun x2 x3 x4 M v N => N = M) (fun x2 x3 x4 M v N hs => by
    rcases hs with ⟨_, _, hN⟩ | ⟨_, hs⟩
    · exact hN
    · rcases hs with ⟨_, hs⟩ | ⟨_, _, hs⟩
      · exact hs
      · exact hs)
  rw [e, D_234_w h234, f1 w 5 w1 w2 (by simp only [l_231, pOut_cons, pOut_nil, true_or, and_true])]
theorem D_140_w {w : Nat} (hw : pK 10 w = true) {M : pMem} {v : Unit} {N : pMem} (h : D_140 w M v N) : N w 5 = xDraw (xDraw (M w 5)) := by
  obtain ⟨v1, M1, ha, v2, M2, hb, h⟩ := h
  obtain ⟨w1, w2, _⟩ := pScrW hw 5
  have e2 : M2 w 5 = xDraw (xDraw (M w 5)) := by rw [D_233_w hw hb, D_233_w hw ha]
  rcases h with ⟨_, _, hN⟩ | ⟨_, h⟩
  · rw [hN]
    exact e2
  · rcases h with ⟨_, M3, e3, _, M4, h235, _, hN⟩ | ⟨_, M3, e3, _, M4, h235, _, hN⟩
    · have f := F_235 hw h235
      rw [hN, f w 5 w1 w2 (by simp only [l_235, pOut_cons, pOut_nil, true_or, and_true]; omega), e3, aPut_at (by decide)]
      exact e2
    · have f := F_235 hw h235
      rw [hN, f w 5 w1 w2 (by simp only [l_235, pOut_cons, pOut_nil, true_or, and_true]; omega), e3, aPut_at (by decide)]
      exact e2
/-- boys, days, state of a wood behind a day -/
def wDay (w : Nat) (k : Int32) (M N : pMem) : Prop := N w 0 = M w 0 ∧ N w 4 = M w 4 + kI 1 ∧ N w 5 = if k = kI 1 then xDraw (xDraw (M w 5)) else M w 5
theorem D_138_w {w l : Nat} (hw : pK 10 w = true) (hl : pK 2 l = true) {p3 p4 p5 : Int32} {M : pMem} {v : Int32} {N : pMem} (h : D_138 w l p3 p4 p5 M v N) : wDay w p3 M N := by
  obtain ⟨w1, _, _⟩ := pScrW hw 5
  have ws : ∀ j, pScr w j = false := fun j => (pScrW hw j).2.1
  obtain ⟨_, M1, h139, h⟩ := h
  have e0 : ∀ j, j = 0 ∨ j = 4 ∨ j = 5 → M1 w j = M w j := fun j hj => F_139 hw h139 w j w1 (ws j) (by simp only [l_139, pOut_cons, pOut_nil, true_or, and_true]; omega)
  have tail : ∀ (k : Nat) (M2 : pMem), (tCall (D_141 w l M2) fun _ M3 => tCall (D_143 w l (kI 0) M3) fun _ M4 => tCall (D_143 w l (kI 1) M4) fun _ M5 => tCall (D_144 w l M5) fun _ M6 => tCall (D_145 w l (kI 0) M6) fun _ M7 => tCall (D_145 w l (kI 1) M7) fun _ M8 => tPut (aPut M8 w 4 ((M8 w 4) + (kI 1))) fun M9 => tRet (f_239 (M9 w 11)) M9) v N →
      N w 0 = M2 w 0 ∧ N w 4 = M2 w 4 + kI 1 ∧ N w 5 = M2 w 5 := by
    rintro _ M2 ⟨_, M3, h141, _, M4, h143, _, M5, h143b, _, M6, h144, _, M7, h145, _, M8, h145b, M9, e9, _, hN⟩
    have e : ∀ j, j = 0 ∨ j = 4 ∨ j = 5 → M8 w j = M2 w j := fun j hj => by
      rw [F_145 hw hl h145b w j w1 (ws j) (by simp only [l_145, pOut_cons, pOut_nil, true_or, and_true]; omega), F_145 hw hl h145 w j w1 (ws j) (by simp only [l_145, pOut_cons, pOut_nil, true_or, and_true]; omega),
        F_144 hw hl h144 w j w1 (ws j) (by simp only [l_144, pOut_cons, pOut_nil, true_or, and_true]; omega), F_143 hw hl h143b w j w1 (ws j) (by simp only [l_143, pOut_cons, pOut_nil, true_or, and_true]; omega),
        F_143 hw hl h143 w j w1 (ws j) (by simp only [l_143, pOut_cons, pOut_nil, true_or, and_true]; omega), F_141 hw hl h141 w j w1 (ws j) (by simp only [l_141, pOut_cons, pOut_nil, true_or, and_true]; omega)]
    rw [hN, e9]
    exact ⟨(aPut_at (by decide)).trans (e 0 (by omega)), by rw [aPut_same, e 4 (by omega)], (aPut_at (by decide)).trans (e 5 (by omega))⟩
  rcases h with ⟨g, h⟩ | ⟨g, _, M2, h140, h⟩
  · obtain ⟨t1, t2, t3⟩ := tail 0 M1 h
    unfold wDay
    rw [if_neg g, t1, t2, t3, e0 0 (by omega), e0 4 (by omega), e0 5 (by omega)]
    exact ⟨rfl, rfl, rfl⟩
  · have g := Classical.not_not.mp g
    obtain ⟨t1, t2, t3⟩ := tail 0 M2 h
    have f := F_140 hw h140
    unfold wDay
    rw [if_pos g, t1, t2, t3, D_140_w hw h140, f w 0 w1 (ws 0) (by simp only [l_140, pOut_cons, pOut_nil, true_or, and_true]; omega), f w 4 w1 (ws 4) (by simp only [l_140, pOut_cons, pOut_nil, true_or, and_true]; omega), e0 0 (by omega), e0 4 (by omega), e0 5 (by omega)]
    exact ⟨rfl, rfl, rfl⟩
theorem D_30_w {p1 p2 p3 : Int32} {M : pMem} {v : Int32} {N : pMem} (h : D_30 p1 p2 p3 M v N) : wDay 19 p1 M N := by
  obtain ⟨v1, M1, h217, v2, M2, h138, _, M3, h190, _, M4, h218, _, hN⟩ := h
  have hl := D_217_k h217
  have hw : pK 10 19 = true := by decide +kernel
  obtain ⟨_, _, rfl⟩ := h217
  have w := D_138_w hw hl h138
  have f3 := F_190 hw hl h190
  have f4 := F_218 h218
  subst hN
  have e : ∀ j, j = 0 ∨ j = 4 ∨ j = 5 → N 19 j = M2 19 j := fun j hj => by
    rw [f4 19 j (by decide) rfl (by simp only [l_218, pOut_cons, pOut_nil, true_or, and_true]; omega), f3 19 j (by decide) rfl (by simp only [l_190, pOut_cons, pOut_nil, true_or, and_true]; omega)]
  unfold wDay
  rw [e 0 (by omega), e 4 (by omega), e 5 (by omega)]
  exact w
/-! the reference -/
theorem D_51_w {p1 : Int32} {M : pMem} {v : Int32} {N : pMem} (h : D_51 p1 M v N) : N 188 1 = xDraw (M 188 1) := by
  obtain ⟨M1, e1, _, _, hN⟩ := h
  rw [hN, e1, aPut_same]
  rfl
theorem D_90_w {p1 : Int32} {M : pMem} {v : Int32} {N : pMem} (h : D_90 p1 M v N) : N 188 1 = xDraw (M 188 1) :=
  h (fun x2 x3 M v N => N 188 1 = xDraw (M 188 1)) (fun x2 x3 M v N hs => by
    rcases hs with ⟨_, v1, M1, h54, v2, M2, h51, _, hN⟩ | ⟨_, _, hs⟩
    · rw [hN, D_51_w h51, F_54 h54 188 1 (by decide) rfl rfl]
    · rcases hs with ⟨_, hs⟩ | ⟨_, _, hs⟩
      · exact hs
      · rcases hs with ⟨_, hs⟩ | ⟨_, _, hs⟩
        · exact hs
        · exact hs)
theorem D_91_w {M : pMem} {v : Unit} {N : pMem} (h : D_91 M v N) : N 188 1 = xDraw (xDraw (M 188 1)) := by
  obtain ⟨v1, M1, ha, v2, M2, hb, h⟩ := h
  have e2 : M2 188 1 = xDraw (xDraw (M 188 1)) := by rw [D_90_w hb, D_90_w ha]
  have t : ∀ x, (tPut (aPut M2 188 20 x) fun M3 => tIf ((M3 188 20) = (kI (-1))) (tRet () M3) (tGd (pIn (M3 188 20) 2) <| tGd (pIn (M3 188 20) 2) <| tPut (aPut M3 199 (ix (M3 188 20)) ((M3 199 (ix (M3 188 20))) + (kI 1))) fun M4 => tRet () M4)) v N → N 188 1 = xDraw (xDraw (M 188 1)) := by
    rintro x ⟨M3, e3, h⟩
    rcases h with ⟨_, _, hN⟩ | ⟨_, _, _, M4, e4, _, hN⟩
    · rw [hN, e3, aPut_at (by decide)]
      exact e2
    · rw [hN, e4, aPut_cell (by decide), e3, aPut_at (by decide)]
      exact e2
  rcases h with ⟨_, h⟩ | ⟨_, h⟩
  · rcases h with ⟨_, h⟩ | ⟨_, h⟩
    · exact t _ h
    · exact t _ h
  · exact t _ h
def mDay (k : Int32) (M N : pMem) : Prop := N 188 2 = M 188 2 ∧ N 188 3 = M 188 3 + kI 1 ∧ N 188 1 = if k = kI 1 then xDraw (xDraw (M 188 1)) else M 188 1
theorem D_101_w {p1 p2 p3 : Int32} {M : pMem} {v : Unit} {N : pMem} (h : D_101 p1 p2 p3 M v N) : mDay p1 M N := by
  obtain ⟨M1, e1, M2, e2, M3, e3, M4, e4, M5, e5, h⟩ := h
  have e0 : ∀ j, j = 1 ∨ j = 2 ∨ j = 3 → M5 188 j = M 188 j := fun j hj => by
    rw [e5, aPut_at (by omega), e4, aPut_at (by omega), e3, aPut_at (by omega), e2, aPut_at (by omega), e1, aPut_at (by omega)]
  have tail : ∀ (M6 : pMem), (tCall (D_92 M6) fun _ M7 => tCall (D_93 M7) fun _ M8 => tCall (D_94 M8) fun _ M9 => tCall (D_95 M9) fun _ M10 => tCall (D_99 M10) fun _ M11 => tCall (D_100 M11) fun _ M12 => tPut (aPut M12 188 3 ((M12 188 3) + (kI 1))) fun M13 => tRet () M13) v N →
      N 188 2 = M6 188 2 ∧ N 188 3 = M6 188 3 + kI 1 ∧ N 188 1 = M6 188 1 := by
    rintro M6 ⟨_, M7, h92, _, M8, h93, _, M9, h94, _, M10, h95, _, M11, h99, _, M12, h100, M13, e13, _, hN⟩
    have e : ∀ j, j = 1 ∨ j = 2 ∨ j = 3 → M12 188 j = M6 188 j := fun j hj => by
      have s : pScr 188 j = false := by rcases hj with rfl | rfl | rfl <;> rfl
      rw [F_100 h100 188 j (by decide) s (by simp only [l_100, pOut_cons, pOut_nil, true_or, and_true]; omega), F_99 h99 188 j (by decide) s (by simp only [l_99, pOut_cons, pOut_nil, true_or, and_true]; omega),
        F_95 h95 188 j (by decide) s (by simp only [l_95, pOut_cons, pOut_nil, true_or, and_true]; omega), F_94 h94 188 j (by decide) s (by simp only [l_94, pOut_cons, pOut_nil, true_or, and_true]; omega),
        F_93 h93 188 j (by decide) s (by simp only [l_93, pOut_cons, pOut_nil, true_or, and_true]; omega), F_92 h92 188 j (by decide) s (by simp only [l_92, pOut_cons, pOut_nil, true_or, and_true]; omega)]
    rw [hN, e13]
    exact ⟨(aPut_at (by decide)).trans (e 2 (by omega)), by rw [aPut_same, e 3 (by omega)], (aPut_at (by decide)).trans (e 1 (by omega))⟩
  have both : ∀ (M6 : pMem), (∀ j, j = 1 ∨ j = 2 ∨ j = 3 → M6 188 j = M 188 j) → (tIf (¬ p1 = (kI 1)) (tCall (D_92 M6) fun _ M7 => tCall (D_93 M7) fun _ M8 => tCall (D_94 M8) fun _ M9 => tCall (D_95 M9) fun _ M10 => tCall (D_99 M10) fun _ M11 => tCall (D_100 M11) fun _ M12 => tPut (aPut M12 188 3 ((M12 188 3) + (kI 1))) fun M13 => tRet () M13)
      (tCall (D_91 M6) fun _ M6 => tCall (D_92 M6) fun _ M7 => tCall (D_93 M7) fun _ M8 => tCall (D_94 M8) fun _ M9 => tCall (D_95 M9) fun _ M10 => tCall (D_99 M10) fun _ M11 => tCall (D_100 M11) fun _ M12 => tPut (aPut M12 188 3 ((M12 188 3) + (kI 1))) fun M13 => tRet () M13)) v N → mDay p1 M N := by
    intro M6 e6 h
    unfold mDay
    rcases h with ⟨g, h⟩ | ⟨g, _, M7, h91, h⟩
    · obtain ⟨t1, t2, t3⟩ := tail M6 h
      rw [if_neg g, t1, t2, t3, e6 2 (by omega), e6 3 (by omega), e6 1 (by omega)]
      exact ⟨rfl, rfl, rfl⟩
    · have g := Classical.not_not.mp g
      obtain ⟨t1, t2, t3⟩ := tail M7 h
      have f := F_91 h91
      rw [if_pos g, t1, t2, t3, D_91_w h91, f 188 2 (by decide) rfl rfl, f 188 3 (by decide) rfl rfl, e6 2 (by omega), e6 3 (by omega), e6 1 (by omega)]
      exact ⟨rfl, rfl, rfl⟩
  rcases h with ⟨_, h⟩ | ⟨_, _, _, M6, e6, h⟩
  · exact both M5 e0 h
  · exact both M6 (fun j hj => by rw [e6, aPut_cell (by decide)]; exact e0 j hj) h
/-! what is put aside, and taken back: a counter at (188, c), a row bf, and where the i-th thing stands -/
def cpD (c bf N : Nat) (p : Int32) (M : pMem) (v : Int32) (M1 : pMem) : Prop := ∃ Ma, Ma = aPut M 188 c (M 188 c + kI 1) ∧ ((¬ Ma 188 69 = 0 ∧ pIn (Ma 188 c - kI 1) N ∧ v = p ∧ M1 = aPut Ma bf (ix (Ma 188 c - kI 1)) p) ∨ (Ma 188 69 = 0 ∧ pIn (Ma 188 c - kI 1) N ∧ v = Ma bf (ix (Ma 188 c - kI 1)) ∧ M1 = Ma))
theorem D_107_c {p v : Int32} {M M1 : pMem} (h : D_107 p M v M1) : cpD 68 222 1200 p M v M1 := by
  obtain ⟨Ma, e, h⟩ := h
  refine ⟨Ma, e, ?_⟩
  rcases h with ⟨g, g2, Mb, e2, hv, hN⟩ | ⟨g, g2, hv, hN⟩
  · exact Or.inl ⟨g, g2, hv, by rw [hN, e2]⟩
  · exact Or.inr ⟨Classical.not_not.mp g, g2, hv, hN⟩
theorem D_132_c {p v : Int32} {M M1 : pMem} (h : D_132 p M v M1) : cpD 79 229 8600 p M v M1 := by
  obtain ⟨Ma, e, h⟩ := h
  refine ⟨Ma, e, ?_⟩
  rcases h with ⟨g, g2, Mb, e2, hv, hN⟩ | ⟨g, g2, hv, hN⟩
  · exact Or.inl ⟨g, g2, hv, by rw [hN, e2]⟩
  · exact Or.inr ⟨Classical.not_not.mp g, g2, hv, hN⟩
/-- the first n are put aside (w), or taken back -/
def cpI (c bf : Nat) (P : Nat → Nat × Nat) (w : Prop) (M0 : pMem) (n : Nat) (M : pMem) : Prop :=
  (M 188 c).toInt = n ∧ (w ↔ ¬ M 188 69 = 0) ∧
  (w → (∀ i, M bf i = if i < n then M0 (P i).1 (P i).2 else M0 bf i) ∧ ∀ a j, a ≠ bf → ¬ (a = 188 ∧ j = c) → M a j = M0 a j) ∧
  (¬ w → (∀ i, M bf i = M0 bf i) ∧ (∀ i, i < n → M (P i).1 (P i).2 = M0 bf i) ∧ ∀ a j, (∀ i, i < n → ¬ ((P i).1 = a ∧ (P i).2 = j)) → ¬ (a = 188 ∧ j = c) → M a j = M0 a j)
theorem cp_step {c bf N n a j : Nat} {P : Nat → Nat × Nat} {w : Prop} {M0 M M1 : pMem} {v : Int32} (h : cpI c bf P w M0 n M) (hc : c ≠ 69) (hb : bf ≠ 188) (hN : N ≤ 8600) (hP : P n = (a, j)) (ha : a ≠ bf) (haj : ¬ (a = 188 ∧ (j = c ∨ j = 69))) (inj : ∀ i, i < n → ¬ P i = P n) (out : ∀ i, i ≤ n → (P i).1 ≠ bf ∧ ¬ ((P i).1 = 188 ∧ (P i).2 = c))
    (hD : cpD c bf N (M a j) M v M1) : cpI c bf P w M0 (n + 1) (aPut M1 a j v) := by
  obtain ⟨h1, h2, h3, h4⟩ := h
  obtain ⟨Ma, ea, hD⟩ := hD
  have rg := i_rg (M 188 c)
  have ma : Ma 188 c = M 188 c + kI 1 := by rw [ea, aPut_same]
  have ma69 : Ma 188 69 = M 188 69 := by rw [ea, aPut_at (Ne.symm hc)]
  have mo : ∀ b i, ¬ (b = 188 ∧ i = c) → Ma b i = M b i := fun b i hbi => by
    rw [ea]
    unfold aPut
    by_cases e : b = 188
    · rw [if_pos e, if_neg (fun q => hbi ⟨e, q⟩)]
    · rw [if_neg e]
  have hin : pIn (Ma 188 c - kI 1) N → (Ma 188 c).toInt = ((n + 1 : Nat) : Int) ∧ ix (Ma 188 c - kI 1) = n := by
    intro g
    obtain ⟨g1, g2⟩ := ix_in g
    have big : (M 188 c).toInt ≤ 2147483646 := by
      apply Classical.byContradiction
      intro q
      have e : (M 188 c).toInt = 2147483647 := by omega
      have e2 : M 188 c = kI 2147483647 := kI_inj e
      rw [ma, e2] at g
      exact absurd g (by
        have : kI 2147483647 + kI 1 - kI 1 = kI 2147483647 := by decide
        rw [this]
        rintro ⟨_, q2⟩
        rw [kI_toInt (by decide) (by decide)] at q2
        omega)
    have s1 : (Ma 188 c).toInt = ((n + 1 : Nat) : Int) := by rw [ma, i_add1 big, h1]; omega
    refine ⟨s1, ix_of ?_⟩
    rw [i_sub (by rw [s1, kI1]; omega) (by rw [s1, kI1]; omega), s1, kI1]
    omega
  have c188 : ∀ x, (aPut Ma a j x) 188 c = Ma 188 c := fun x => by
    unfold aPut
    by_cases e : 188 = a
    · rw [if_pos e, if_neg (fun q => haj ⟨e.symm, Or.inl q.symm⟩), e]
    · rw [if_neg e]
  have c69 : ∀ (X : pMem) x, (aPut X a j x) 188 69 = X 188 69 := fun X x => by
    unfold aPut
    by_cases e : 188 = a
    · rw [if_pos e, if_neg (fun q => haj ⟨e.symm, Or.inr q.symm⟩), e]
    · rw [if_neg e]
  have c188' : ∀ (X : pMem) x, (aPut X a j x) 188 c = X 188 c := fun X x => by
    unfold aPut
    by_cases e : 188 = a
    · rw [if_pos e, if_neg (fun q => haj ⟨e.symm, Or.inl q.symm⟩), e]
    · rw [if_neg e]
  have maj : Ma a j = M a j := mo a j (fun q => haj ⟨q.1, Or.inl q.2⟩)
  rcases hD with ⟨g, gi, hv, hM⟩ | ⟨g, gi, hv, hM⟩
  · -- put
    obtain ⟨s1, s2⟩ := hin gi
    rw [s2] at hM
    have hw : w := h2.mpr (by rw [← ma69]; exact g)
    obtain ⟨w1, w2⟩ := h3 hw
    have vv : M a j = M0 a j := w2 a j ha (fun q => haj ⟨q.1, Or.inl q.2⟩)
    refine ⟨?_, ⟨fun _ => ?_, fun _ => hw⟩, fun _ => ⟨fun i => ?_, fun b i hb1 hb2 => ?_⟩, fun q => absurd hw q⟩
    · rw [c188', hM, aPut_cell (Ne.symm hb), s1]
    · rw [c69, hM, aPut_cell (Ne.symm hb)]
      exact g
    · rw [aPut_cell (Ne.symm ha), hM, aPut_row]
      by_cases e : i = n
      · rw [if_pos e, if_pos (by omega), e, hP, vv]
      · rw [if_neg e, mo bf i (fun q => hb q.1), w1 i]
        by_cases l : i < n
        · rw [if_pos l, if_pos (by omega)]
        · rw [if_neg l, if_neg (by omega)]
    · by_cases e : b = a ∧ i = j
      · rw [e.1, e.2, aPut_same, hv, vv]
      · have e1 : aPut M1 a j v b i = M1 b i := by
          unfold aPut
          by_cases q : b = a
          · rw [if_pos q, if_neg (fun q2 => e ⟨q, q2⟩), q]
          · rw [if_neg q]
        rw [e1, hM, aPut_cell hb1, mo b i hb2]
        exact w2 b i hb1 hb2
  · -- back
    obtain ⟨s1, s2⟩ := hin gi
    rw [s2] at hv
    have hw : ¬ w := fun q => (h2.mp q) (by rw [← ma69]; exact g)
    obtain ⟨w1, w2, w3⟩ := h4 hw
    have vv : v = M0 bf n := by rw [hv, mo bf n (fun q => hb q.1), w1]
    refine ⟨?_, ⟨fun q => absurd q hw, fun q => absurd (by rw [c69, hM]; exact g) q⟩, fun q => absurd q hw, fun _ => ⟨fun i => ?_, fun i hi => ?_, fun b i hb1 hb2 => ?_⟩⟩
    · rw [c188', hM, s1]
    · rw [aPut_cell (Ne.symm ha), hM, mo bf i (fun q => hb q.1), w1]
    · by_cases e : i = n
      · rw [e, hP]
        show aPut M1 a j v a j = _
        rw [aPut_same, vv]
      · have ne := inj i (by omega)
        rw [hP] at ne
        have o := out i (by omega)
        have e1 : aPut M1 a j v (P i).1 (P i).2 = M1 (P i).1 (P i).2 := by
          unfold aPut
          by_cases q : (P i).1 = a
          · rw [if_pos q, if_neg (fun q2 => ne (Prod.ext q q2)), q]
          · rw [if_neg q]
        rw [e1, hM, mo _ _ o.2]
        exact w2 i (by omega)
    · have nn := hb1 n (by omega)
      rw [hP] at nn
      have e1 : aPut M1 a j v b i = M1 b i := by
        unfold aPut
        by_cases q : b = a
        · rw [if_pos q, if_neg (fun q2 => nn ⟨q.symm, q2.symm⟩), q]
        · rw [if_neg q]
      rw [e1, hM, mo b i hb2]
      exact w3 b i (fun k hk => hb1 k (by omega)) hb2
theorem cp_begin {c bf : Nat} {P : Nat → Nat × Nat} {w : Prop} {M : pMem} (h1 : M 188 c = kI 0) (h2 : w ↔ ¬ M 188 69 = 0) : cpI c bf P w M 0 M := by
  refine ⟨by rw [h1]; rfl, h2, fun _ => ⟨fun i => by rw [if_neg (Nat.not_lt_zero i)], fun _ _ _ _ => rfl⟩, fun _ => ⟨fun _ => rfl, fun i hi => absurd hi (Nat.not_lt_zero i), fun _ _ _ _ => rfl⟩⟩
/-! the reference's asides -/
def asP (i : Nat) : Nat × Nat := if i < 8 then (188, [1, 3, 4, 17, 18, 19, 20, 21].getD i 0) else if i < 18 then (196 + (i - 8) % 5, (i - 8) / 5) else if i < 66 then (191 + (i - 18) % 2, (i - 18) / 2) else if i < 642 then (194, i - 66) else (201, i - 642)
def asR (a j : Nat) : Nat := if a = 188 then (if j = 1 then 0 else if j < 5 then j - 2 else j - 14) else if a = 194 then j + 66 else if a = 201 then j + 642 else if a < 193 then 18 + 2 * j + (a - 191) else 8 + 5 * j + (a - 196)
theorem asR_ck : (List.range 1122).all (fun i => Nat.beq (asR (asP i).1 (asP i).2) i && (!Nat.beq (asP i).1 222 && !(Nat.beq (asP i).1 188 && (Nat.beq (asP i).2 68 || Nat.beq (asP i).2 69)))) = true := by decide +kernel
theorem as_i {i : Nat} (h : i < 1122) : asR (asP i).1 (asP i).2 = i ∧ (asP i).1 ≠ 222 ∧ ¬ ((asP i).1 = 188 ∧ ((asP i).2 = 68 ∨ (asP i).2 = 69)) := by
  have := List.all_eq_true.mp asR_ck i (List.mem_range.mpr h)
  simp only [Bool.and_eq_true, Bool.not_eq_true', Bool.and_eq_false_iff, Bool.or_eq_false_iff] at this
  obtain ⟨t1, t2, t3⟩ := this
  have q : ∀ {x y : Nat}, Nat.beq x y = false → ¬ x = y := fun h e => by rw [e, Nat.beq_refl] at h; cases h
  refine ⟨Nat.eq_of_beq_eq_true t1, q t2, ?_⟩
  rcases t3 with t | ⟨t, t'⟩
  · exact fun e => q t e.1
  · exact fun e => e.2.elim (q t) (q t')
theorem as_step {n a j : Nat} {w : Prop} {M0 M M1 M2 : pMem} {v : Int32} (h : cpI 68 222 asP w M0 n M) (hn : n < 1122) (hP : asP n = (a, j)) (hD : D_107 (M a j) M v M1) (e : M2 = aPut M1 a j v) : cpI 68 222 asP w M0 (n + 1) M2 := by
  obtain ⟨k1, k2, k3⟩ := as_i hn
  rw [hP] at k2 k3
  rw [e]
  refine cp_step h (by decide) (by decide) (by decide) hP k2 k3 (fun i hi e => ?_) (fun i hi => ?_) (D_107_c hD)
  · have q := (as_i (i := i) (by omega)).1
    rw [e, k1] at q
    omega
  · obtain ⟨_, q2, q3⟩ := as_i (i := i) (by omega)
    exact ⟨q2, fun e => q3 ⟨e.1, Or.inl e.2⟩⟩
theorem as_8 : ∀ x, x < 2 → asP (8 + 5 * x) = (196, x) ∧ asP (8 + 5 * x + 1) = (197, x) ∧ asP (8 + 5 * x + 2) = (198, x) ∧ asP (8 + 5 * x + 3) = (199, x) ∧ asP (8 + 5 * x + 4) = (200, x) := by decide +kernel
theorem as_18 : ∀ x, x < 24 → asP (18 + 2 * x) = (191, x) ∧ asP (18 + 2 * x + 1) = (192, x) := by decide +kernel
theorem as_66 {x : Nat} (h : x < 576) : asP (66 + x) = (194, x) := by
  unfold asP
  rw [if_neg (by omega), if_neg (by omega), if_neg (by omega), if_pos (by omega), show 66 + x - 66 = x by omega]
theorem as_642 {x : Nat} (h : x < 480) : asP (642 + x) = (201, x) := by
  unfold asP
  rw [if_neg (by omega), if_neg (by omega), if_neg (by omega), if_neg (by omega), show 642 + x - 642 = x by omega]
theorem D_108_w {p1 : Int32} {M : pMem} {v : Unit} {N : pMem} (h : D_108 p1 M v N) : ∃ M0, M0 = aPut (aPut M 188 69 p1) 188 68 (kI 0) ∧ cpI 68 222 asP (¬ p1 = 0) M0 1122 N := by
  obtain ⟨M1, e1, M2, e2, v1, M3, d1, M4, p1', v2, M5, d2, M6, p2', v3, M7, d3, M8, p3', v4, M9, d4, M10, p4', v5, M11, d5, M12, p5', v6, M13, d6, M14, p6', v7, M15, d7, M16, p7', v8, M17, d8, M18, p8', h⟩ := h
  refine ⟨M2, by rw [e2, e1], ?_⟩
  have i_0 : cpI 68 222 asP (¬ p1 = 0) M2 0 M2 := cp_begin (by rw [e2, aPut_same]) (by rw [e2, aPut_at (by decide), e1, aPut_same])
  have i1 := as_step i_0 (by decide) rfl d1 p1'
  have i2 := as_step i1 (by decide) rfl d2 p2'
  have i3 := as_step i2 (by decide) rfl d3 p3'
  have i4 := as_step i3 (by decide) rfl d4 p4'
  have i5 := as_step i4 (by decide) rfl d5 p5'
  have i6 := as_step i5 (by decide) rfl d6 p6'
  have i7 := as_step i6 (by decide) rfl d7 p7'
  have i8 := as_step i7 (by decide) rfl d8 p8'
  have go := h (fun x M v N => ∀ k : Nat, x.toInt = k → k ≤ 2 → cpI 68 222 asP (¬ p1 = 0) M2 (8 + 5 * k) M → cpI 68 222 asP (¬ p1 = 0) M2 1122 N,
    fun x M v N => ∀ k : Nat, x.toInt = k → k ≤ 24 → cpI 68 222 asP (¬ p1 = 0) M2 (18 + 2 * k) M → cpI 68 222 asP (¬ p1 = 0) M2 1122 N,
    fun x M v N => ∀ k : Nat, x.toInt = k → k ≤ 576 → cpI 68 222 asP (¬ p1 = 0) M2 (66 + k) M → cpI 68 222 asP (¬ p1 = 0) M2 1122 N,
    fun x M v N => ∀ k : Nat, x.toInt = k → k ≤ 480 → cpI 68 222 asP (¬ p1 = 0) M2 (642 + k) M → cpI 68 222 asP (¬ p1 = 0) M2 1122 N) ⟨?_, ?_, ?_, ?_⟩
  · exact go 0 rfl (by omega) i8
  · intro x M v N hs k hx hk hi
    rcases hs with ⟨g, hs⟩ | ⟨g, _, u1, N1, c1, _, N2, q1, _, u2, N3, c2, _, N4, q2, _, u3, N5, c3, _, N6, q3, _, u4, N7, c4, _, N8, q4, _, u5, N9, c5, _, N10, q5, hs⟩
    · rw [i_le, hx, kI_toInt (by decide) (by decide)] at g
      exact hs 0 rfl (by omega) (by rw [show k = 2 by omega] at hi; exact hi)
    · rw [i_le, hx, kI_toInt (by decide) (by decide)] at g
      rw [ix_of hx] at c1 q1 c2 q2 c3 q3 c4 q4 c5 q5
      obtain ⟨t1, t2, t3, t4, t5⟩ := as_8 k (by omega)
      have j1 := as_step hi (by omega) t1 c1 q1
      have j2 := as_step j1 (by omega) t2 c2 q2
      have j3 := as_step j2 (by omega) t3 c3 q3
      have j4 := as_step j3 (by omega) t4 c4 q4
      have j5 := as_step j4 (by omega) t5 c5 q5
      exact hs (k + 1) (by rw [i_add1 (by omega)]; omega) (by omega) (by rw [show 8 + 5 * (k + 1) = 8 + 5 * k + 4 + 1 by omega]; exact j5)
  · intro x M v N hs k hx hk hi
    rcases hs with ⟨g, hs⟩ | ⟨g, _, u1, N1, c1, _, N2, q1, _, u2, N3, c2, _, N4, q2, hs⟩
    · rw [i_le, hx, kI_toInt (by decide) (by decide)] at g
      exact hs 0 rfl (by omega) (by rw [show k = 24 by omega] at hi; exact hi)
    · rw [i_le, hx, kI_toInt (by decide) (by decide)] at g
      rw [ix_of hx] at c1 q1 c2 q2
      obtain ⟨t1, t2⟩ := as_18 k (by omega)
      have j1 := as_step hi (by omega) t1 c1 q1
      have j2 := as_step j1 (by omega) t2 c2 q2
      exact hs (k + 1) (by rw [i_add1 (by omega)]; omega) (by omega) (by rw [show 18 + 2 * (k + 1) = 18 + 2 * k + 1 + 1 by omega]; exact j2)
  · intro x M v N hs k hx hk hi
    rcases hs with ⟨g, hs⟩ | ⟨g, _, u1, N1, c1, _, N2, q1, hs⟩
    · rw [i_le, hx, kI_toInt (by decide) (by decide)] at g
      exact hs 0 rfl (by omega) (by rw [show k = 576 by omega] at hi; exact hi)
    · rw [i_le, hx, kI_toInt (by decide) (by decide)] at g
      rw [ix_of hx] at c1 q1
      have j1 := as_step hi (by omega) (as_66 (by omega)) c1 q1
      exact hs (k + 1) (by rw [i_add1 (by omega)]; omega) (by omega) (by rw [show 66 + (k + 1) = 66 + k + 1 by omega]; exact j1)
  · intro x M v N hs k hx hk hi
    rcases hs with ⟨g, _, hN⟩ | ⟨g, _, u1, N1, c1, _, N2, q1, hs⟩
    · rw [i_le, hx, kI_toInt (by decide) (by decide)] at g
      rw [show k = 480 by omega] at hi
      rw [hN]
      exact hi
    · rw [i_le, hx, kI_toInt (by decide) (by decide)] at g
      rw [ix_of hx] at c1 q1
      have j1 := as_step hi (by omega) (as_642 (by omega)) c1 q1
      exact hs (k + 1) (by rw [i_add1 (by omega)]; omega) (by omega) (by rw [show 642 + (k + 1) = 642 + k + 1 by omega]; exact j1)
/-- put aside: all stays, and stands aside -/
theorem D_108_put {p1 : Int32} {M : pMem} {v : Unit} {N : pMem} (h : D_108 p1 M v N) (hp : ¬ p1 = 0) : (∀ i, i < 1122 → N 222 i = M (asP i).1 (asP i).2) ∧ ∀ a j, a ≠ 222 → ¬ (a = 188 ∧ (j = 68 ∨ j = 69)) → N a j = M a j := by
  obtain ⟨M0, e0, _, _, c, _⟩ := D_108_w h
  obtain ⟨c1, c2⟩ := c hp
  have m0 : ∀ a j, ¬ (a = 188 ∧ (j = 68 ∨ j = 69)) → M0 a j = M a j := fun a j q => by
    rw [e0]
    by_cases ea : a = 188
    · subst ea
      rw [aPut_at (fun e => q ⟨rfl, Or.inl e⟩), aPut_at (fun e => q ⟨rfl, Or.inr e⟩)]
    · rw [aPut_cell ea, aPut_cell ea]
  refine ⟨fun i hi => ?_, fun a j h1 h2 => ?_⟩
  · rw [c1 i, if_pos hi]
    exact m0 _ _ (as_i hi).2.2
  · rw [c2 a j h1 (fun q => h2 ⟨q.1, Or.inl q.2⟩)]
    exact m0 a j h2
/-- taken back -/
theorem D_108_get {p1 : Int32} {M : pMem} {v : Unit} {N : pMem} (h : D_108 p1 M v N) (hp : p1 = 0) : (∀ i, i < 1122 → N (asP i).1 (asP i).2 = M 222 i) ∧ (∀ i, N 222 i = M 222 i) ∧ ∀ a j, (∀ i, i < 1122 → ¬ ((asP i).1 = a ∧ (asP i).2 = j)) → ¬ (a = 188 ∧ (j = 68 ∨ j = 69)) → N a j = M a j := by
  obtain ⟨M0, e0, _, _, _, c⟩ := D_108_w h
  obtain ⟨c1, c2, c3⟩ := c (nn hp)
  have m0 : ∀ a j, ¬ (a = 188 ∧ (j = 68 ∨ j = 69)) → M0 a j = M a j := fun a j q => by
    rw [e0]
    by_cases ea : a = 188
    · subst ea
      rw [aPut_at (fun e => q ⟨rfl, Or.inl e⟩), aPut_at (fun e => q ⟨rfl, Or.inr e⟩)]
    · rw [aPut_cell ea, aPut_cell ea]
  refine ⟨fun i hi => ?_, fun i => ?_, fun a j h1 h2 => ?_⟩
  · rw [c2 i hi]
    exact m0 222 i (by omega)
  · rw [c1 i]
    exact m0 222 i (by omega)
  · rw [c3 a j h1 (fun q => h2 ⟨q.1, Or.inl q.2⟩)]
    exact m0 a j h2
/-! the reference's image -/
theorem cp_val {c bf N n : Nat} {P : Nat → Nat × Nat} {w : Prop} {M0 M M1 : pMem} {p v : Int32} (h : cpI c bf P w M0 n M) (hc : c ≠ 69) (hb : bf ≠ 188) (hN : N ≤ 8600) (hD : cpD c bf N p M v M1) : (w → v = p) ∧ (¬ w → v = M0 bf n) := by
  obtain ⟨h1, h2, h3, h4⟩ := h
  obtain ⟨Ma, ea, hD⟩ := hD
  have rg := i_rg (M 188 c)
  have ma : Ma 188 c = M 188 c + kI 1 := by rw [ea, aPut_same]
  have ma69 : Ma 188 69 = M 188 69 := by rw [ea, aPut_at (Ne.symm hc)]
  have hin : pIn (Ma 188 c - kI 1) N → ix (Ma 188 c - kI 1) = n := by
    intro g
    have big : (M 188 c).toInt ≤ 2147483646 := by
      apply Classical.byContradiction
      intro q
      have e : (M 188 c).toInt = 2147483647 := by omega
      have e2 : M 188 c = kI 2147483647 := kI_inj e
      rw [ma, e2] at g
      exact absurd g (by
        have : kI 2147483647 + kI 1 - kI 1 = kI 2147483647 := by decide
        rw [this]
        rintro ⟨_, q2⟩
        rw [kI_toInt (by decide) (by decide)] at q2
        omega)
    have s1 : (Ma 188 c).toInt = ((n + 1 : Nat) : Int) := by rw [ma, i_add1 big, h1]; omega
    refine ix_of ?_
    rw [i_sub (by rw [s1, kI1]; omega) (by rw [s1, kI1]; omega), s1, kI1]
    omega
  rcases hD with ⟨g, gi, hv, hM⟩ | ⟨g, gi, hv, hM⟩
  · have hw : w := h2.mpr (by rw [← ma69]; exact g)
    exact ⟨fun _ => hv, fun q => absurd hw q⟩
  · have hw : ¬ w := fun q => (h2.mp q) (by rw [← ma69]; exact g)
    refine ⟨fun q => absurd q hw, fun _ => ?_⟩
    rw [hin gi] at hv
    rw [hv, ea, aPut_cell hb]
    exact (h4 hw).1 n
def imP (i : Nat) : Nat × Nat :=
  if i < 12 then ([204, 209, 213].getD (i % 3) 0, i / 3) else if i < 268 then (205 + (i - 12) % 4, (i - 12) / 4) else if i < 4268 then (210 + (i - 268) % 2, (i - 268) / 2) else if i < 4460 then (214 + (i - 4268) % 2, (i - 4268) / 2)
  else if i = 4460 then (188, 2) else if i = 4461 then (188, 71) else if i < 4467 then (223, i - 4462) else if i < 4587 then ([189, 190, 193, 226, 227].getD ((i - 4467) % 5) 0, (i - 4467) / 5) else (195, i - 4587)
def imR (a j : Nat) : Nat :=
  if a = 204 then 3 * j else if a = 209 then 3 * j + 1 else if a = 213 then 3 * j + 2 else if a = 188 then (if j = 2 then 4460 else 4461) else if a = 223 then 4462 + j else if a = 189 then 4467 + 5 * j else if a = 190 then 4468 + 5 * j else if a = 193 then 4469 + 5 * j
  else if a = 226 then 4470 + 5 * j else if a = 227 then 4471 + 5 * j else if a = 195 then 4587 + j else if a < 209 then 12 + 4 * j + (a - 205) else if a < 212 then 268 + 2 * j + (a - 210) else 4268 + 2 * j + (a - 214)
theorem imR_ck : (List.range 5163).all (fun i => Nat.beq (imR (imP i).1 (imP i).2) i && (!Nat.beq (imP i).1 229 && !(Nat.beq (imP i).1 188 && (Nat.beq (imP i).2 79 || Nat.beq (imP i).2 69)))) = true := by decide +kernel
theorem im_i {i : Nat} (h : i < 5163) : imR (imP i).1 (imP i).2 = i ∧ (imP i).1 ≠ 229 ∧ ¬ ((imP i).1 = 188 ∧ ((imP i).2 = 79 ∨ (imP i).2 = 69)) := by
  have := List.all_eq_true.mp imR_ck i (List.mem_range.mpr h)
  simp only [Bool.and_eq_true, Bool.not_eq_true', Bool.and_eq_false_iff, Bool.or_eq_false_iff] at this
  obtain ⟨t1, t2, t3⟩ := this
  have q : ∀ {x y : Nat}, Nat.beq x y = false → ¬ x = y := fun h e => by rw [e, Nat.beq_refl] at h; cases h
  refine ⟨Nat.eq_of_beq_eq_true t1, q t2, ?_⟩
  rcases t3 with t | ⟨t, t'⟩
  · exact fun e => q t e.1
  · exact fun e => e.2.elim (q t) (q t')
theorem im_step' {n a j : Nat} {w : Prop} {M0 M M1 M2 : pMem} {v x : Int32} (h : cpI 79 229 imP w M0 n M) (hn : n < 5163) (hP : imP n = (a, j)) (hx : x = M a j) (hD : D_132 x M v M1) (e : M2 = aPut M1 a j v) : cpI 79 229 imP w M0 (n + 1) M2 := by
  obtain ⟨k1, k2, k3⟩ := im_i hn
  rw [hP] at k2 k3
  rw [e]
  rw [hx] at hD
  refine cp_step h (by decide) (by decide) (by decide) hP k2 k3 (fun i hi e => ?_) (fun i hi => ?_) (D_132_c hD)
  · have q := (im_i (i := i) (by omega)).1
    rw [e, k1] at q
    omega
  · obtain ⟨_, q2, q3⟩ := im_i (i := i) (by omega)
    exact ⟨q2, fun e => q3 ⟨e.1, Or.inl e.2⟩⟩
theorem im_step {n a j : Nat} {w : Prop} {M0 M M1 M2 : pMem} {v : Int32} (h : cpI 79 229 imP w M0 n M) (hn : n < 5163) (hP : imP n = (a, j)) (hD : D_132 (M a j) M v M1) (e : M2 = aPut M1 a j v) : cpI 79 229 imP w M0 (n + 1) M2 := im_step' h hn hP rfl hD e
theorem im_0 : ∀ x, x < 4 → imP (3 * x) = (204, x) ∧ imP (3 * x + 1) = (209, x) ∧ imP (3 * x + 1 + 1) = (213, x) := by decide +kernel
theorem im_12 : ∀ x, x < 64 → imP (12 + 4 * x) = (205, x) ∧ imP (12 + 4 * x + 1) = (206, x) ∧ imP (12 + 4 * x + 1 + 1) = (207, x) ∧ imP (12 + 4 * x + 1 + 1 + 1) = (208, x) := by decide +kernel
theorem im_268 {x : Nat} (h : x < 2000) : imP (268 + 2 * x) = (210, x) ∧ imP (268 + 2 * x + 1) = (211, x) := by
  constructor
  · unfold imP
    rw [if_neg (by omega), if_neg (by omega), if_pos (by omega), show (268 + 2 * x - 268) % 2 = 0 by omega, show (268 + 2 * x - 268) / 2 = x by omega]
  · unfold imP
    rw [if_neg (by omega), if_neg (by omega), if_pos (by omega), show (268 + 2 * x + 1 - 268) % 2 = 1 by omega, show (268 + 2 * x + 1 - 268) / 2 = x by omega]
theorem im_4268 : ∀ x, x < 96 → imP (4268 + 2 * x) = (214, x) ∧ imP (4268 + 2 * x + 1) = (215, x) := by decide +kernel
theorem im_4462 : ∀ x, x < 5 → imP (4462 + x) = (223, x) := by decide +kernel
theorem im_4467 : ∀ x, x < 24 → imP (4467 + 5 * x) = (189, x) ∧ imP (4467 + 5 * x + 1) = (190, x) ∧ imP (4467 + 5 * x + 1 + 1) = (193, x) ∧ imP (4467 + 5 * x + 1 + 1 + 1) = (226, x) ∧ imP (4467 + 5 * x + 1 + 1 + 1 + 1) = (227, x) := by decide +kernel
theorem im_4587 {x : Nat} (h : x < 576) : imP (4587 + x) = (195, x) := by
  unfold imP
  rw [if_neg (by omega), if_neg (by omega), if_neg (by omega), if_neg (by omega), if_neg (by omega), if_neg (by omega), if_neg (by omega), if_neg (by omega), show 4587 + x - 4587 = x by omega]
theorem D_133_w {w : Prop} {M0 M : pMem} {v : Unit} {N : pMem} (hi : cpI 79 229 imP w M0 0 M) (h : D_133 M v N) : cpI 79 229 imP w M0 4460 N := by
  have go := h (fun x M v N => ∀ k : Nat, x.toInt = k → k ≤ 4 → cpI 79 229 imP w M0 (3 * k) M → cpI 79 229 imP w M0 4460 N,
    fun x M v N => ∀ k : Nat, x.toInt = k → k ≤ 64 → cpI 79 229 imP w M0 (12 + 4 * k) M → cpI 79 229 imP w M0 4460 N,
    fun x M v N => ∀ k : Nat, x.toInt = k → k ≤ 2000 → cpI 79 229 imP w M0 (268 + 2 * k) M → cpI 79 229 imP w M0 4460 N,
    fun x M v N => ∀ k : Nat, x.toInt = k → k ≤ 96 → cpI 79 229 imP w M0 (4268 + 2 * k) M → cpI 79 229 imP w M0 4460 N) ⟨?_, ?_, ?_, ?_⟩
  · exact go 0 rfl (by omega) hi
  · intro x M v N hs k hx hk hi
    rcases hs with ⟨g, hs⟩ | ⟨g, _, u1, N1, c1, _, N2, q1, _, u2, N3, c2, _, N4, q2, _, u3, N5, c3, _, N6, q3, hs⟩
    · rw [i_le, hx, kI_toInt (by decide) (by decide)] at g
      exact hs 0 rfl (by omega) (by rw [show k = 4 by omega] at hi; exact hi)
    · rw [i_le, hx, kI_toInt (by decide) (by decide)] at g
      rw [ix_of hx] at c1 q1 c2 q2 c3 q3
      obtain ⟨t1, t2, t3⟩ := im_0 k (by omega)
      have j1 := im_step hi (by omega) t1 c1 q1
      have j2 := im_step j1 (by omega) t2 c2 q2
      have j3 := im_step j2 (by omega) t3 c3 q3
      exact hs (k + 1) (by rw [i_add1 (by omega)]; omega) (by omega) (by rw [show 3 * (k + 1) = 3 * k + 1 + 1 + 1 by omega]; exact j3)
  · intro x M v N hs k hx hk hi
    rcases hs with ⟨g, hs⟩ | ⟨g, _, u1, N1, c1, _, N2, q1, _, u2, N3, c2, _, N4, q2, _, u3, N5, c3, _, N6, q3, _, u4, N7, c4, _, N8, q4, hs⟩
    · rw [i_le, hx, kI_toInt (by decide) (by decide)] at g
      exact hs 0 rfl (by omega) (by rw [show k = 64 by omega] at hi; exact hi)
    · rw [i_le, hx, kI_toInt (by decide) (by decide)] at g
      rw [ix_of hx] at c1 q1 c2 q2 c3 q3 c4 q4
      obtain ⟨t1, t2, t3, t4⟩ := im_12 k (by omega)
      have j1 := im_step hi (by omega) t1 c1 q1
      have j2 := im_step j1 (by omega) t2 c2 q2
      have j3 := im_step j2 (by omega) t3 c3 q3
      have j4 := im_step j3 (by omega) t4 c4 q4
      exact hs (k + 1) (by rw [i_add1 (by omega)]; omega) (by omega) (by rw [show 12 + 4 * (k + 1) = 12 + 4 * k + 1 + 1 + 1 + 1 by omega]; exact j4)
  · intro x M v N hs k hx hk hi
    rcases hs with ⟨g, hs⟩ | ⟨g, _, u1, N1, c1, _, N2, q1, _, u2, N3, c2, _, N4, q2, hs⟩
    · rw [i_le, hx, kI_toInt (by decide) (by decide)] at g
      exact hs 0 rfl (by omega) (by rw [show k = 2000 by omega] at hi; exact hi)
    · rw [i_le, hx, kI_toInt (by decide) (by decide)] at g
      rw [ix_of hx] at c1 q1 c2 q2
      obtain ⟨t1, t2⟩ := im_268 (x := k) (by omega)
      have j1 := im_step hi (by omega) t1 c1 q1
      have j2 := im_step j1 (by omega) t2 c2 q2
      exact hs (k + 1) (by rw [i_add1 (by omega)]; omega) (by omega) (by rw [show 268 + 2 * (k + 1) = 268 + 2 * k + 1 + 1 by omega]; exact j2)
  · intro x M v N hs k hx hk hi
    rcases hs with ⟨g, _, hN⟩ | ⟨g, _, u1, N1, c1, _, N2, q1, _, u2, N3, c2, _, N4, q2, hs⟩
    · rw [i_le, hx, kI_toInt (by decide) (by decide)] at g
      rw [show k = 96 by omega] at hi
      rw [hN]
      exact hi
    · rw [i_le, hx, kI_toInt (by decide) (by decide)] at g
      rw [ix_of hx] at c1 q1 c2 q2
      obtain ⟨t1, t2⟩ := im_4268 k (by omega)
      have j1 := im_step hi (by omega) t1 c1 q1
      have j2 := im_step j1 (by omega) t2 c2 q2
      exact hs (k + 1) (by rw [i_add1 (by omega)]; omega) (by omega) (by rw [show 4268 + 2 * (k + 1) = 4268 + 2 * k + 1 + 1 by omega]; exact j2)
theorem D_134_w {w : Prop} {M0 M : pMem} {v : Unit} {N : pMem} (hi : cpI 79 229 imP w M0 4460 M) (hb1 : w → ∀ b, b < 24 → bo (M0 226 b)) (hb2 : ¬ w → ∀ b, b < 24 → bo (M0 229 (4470 + 5 * b)) ∧ bo (M0 226 b)) (h : D_134 M v N) : cpI 79 229 imP w M0 5163 N := by
  obtain ⟨v1, M1, d1, M2, e1, v2, M3, d2, M4, e2, h⟩ := h
  have i1 := im_step hi (by decide) rfl d1 e1
  have i2 := im_step i1 (by decide) rfl d2 e2
  have go := h (fun x M v N => ∀ k : Nat, x.toInt = k → k ≤ 5 → cpI 79 229 imP w M0 (4462 + k) M → cpI 79 229 imP w M0 5163 N,
    fun x M v N => ∀ k : Nat, x.toInt = k → k ≤ 24 → cpI 79 229 imP w M0 (4467 + 5 * k) M → cpI 79 229 imP w M0 5163 N,
    fun x M v N => ∀ k : Nat, x.toInt = k → k ≤ 576 → cpI 79 229 imP w M0 (4587 + k) M → cpI 79 229 imP w M0 5163 N) ⟨?_, ?_, ?_⟩
  · exact go 0 rfl (by omega) i2
  · intro x M v N hs k hx hk hi
    rcases hs with ⟨g, hs⟩ | ⟨g, _, u1, N1, c1, _, N2, q1, hs⟩
    · rw [i_le, hx, kI_toInt (by decide) (by decide)] at g
      exact hs 0 rfl (by omega) (by rw [show k = 5 by omega] at hi; exact hi)
    · rw [i_le, hx, kI_toInt (by decide) (by decide)] at g
      rw [ix_of hx] at c1 q1
      have j1 := im_step hi (by omega) (im_4462 k (by omega)) c1 q1
      exact hs (k + 1) (by rw [i_add1 (by omega)]; omega) (by omega) (by rw [show 4462 + (k + 1) = 4462 + k + 1 by omega]; exact j1)
  · intro x M v N hs k hx hk hi
    rcases hs with ⟨g, hs⟩ | ⟨g, _, u1, N1, c1, _, N2, q1, _, u2, N3, c2, _, N4, q2, _, u3, N5, c3, _, N6, q3, _, hs⟩
    · rw [i_le, hx, kI_toInt (by decide) (by decide)] at g
      exact hs 0 rfl (by omega) (by rw [show k = 24 by omega] at hi; exact hi)
    · rw [i_le, hx, kI_toInt (by decide) (by decide)] at g
      rw [ix_of hx] at c1 q1 c2 q2 c3 q3 hs
      obtain ⟨t1, t2, t3, t4, t5⟩ := im_4467 k (by omega)
      have j1 := im_step hi (by omega) t1 c1 q1
      have j2 := im_step j1 (by omega) t2 c2 q2
      have j3 := im_step j2 (by omega) t3 c3 q3
      -- yes or no is as it was, at k
      have b6 : bo (N6 226 k) := by
        obtain ⟨_, _, w1, w2⟩ := j3
        by_cases hw : w
        · rw [(w1 hw).2 226 k (by decide) (by omega)]
          exact hb1 hw k (by omega)
        · rw [(w2 hw).2.2 226 k (fun i hi e => ?_) (by omega)]
          · exact (hb2 hw k (by omega)).2
          · have q := (im_i (i := i) (by omega)).1
            have q4 := (im_i (i := 4467 + 5 * k + 1 + 1 + 1) (by omega)).1
            rw [t4] at q4
            rw [e.1, e.2] at q
            rw [q4] at q
            omega
      have v4b : ∀ {x v4 : Int32} {N7 : pMem}, bo x → D_132 x N6 v4 N7 → bo v4 := fun hx hD => by
        obtain ⟨a1, a2⟩ := cp_val j3 (by decide) (by decide) (by decide) (D_132_c hD)
        by_cases hw : w
        · rw [a1 hw]; exact hx
        · rw [a2 hw, show 4467 + 5 * k + 1 + 1 + 1 = 4470 + 5 * k by omega]; exact (hb2 hw k (by omega)).1
      have fin : ∀ {y v4 v5 : Int32} {N7 N8 N9 N10 : pMem}, y = N6 226 k → D_132 y N6 v4 N7 → N8 = aPut N7 226 k v4 → D_132 (N8 227 k) N8 v5 N9 → N10 = aPut N9 227 k v5 → cpI 79 229 imP w M0 (4467 + 5 * (k + 1)) N10 := by
        intro y v4 v5 N7 N8 N9 N10 hy h7 e8 h9 e10
        have j4 := im_step' j3 (by omega) t4 hy h7 e8
        have j5 := im_step j4 (by omega) t5 h9 e10
        rw [show 4467 + 5 * (k + 1) = 4467 + 5 * k + 1 + 1 + 1 + 1 + 1 by omega]
        exact j5
      have nx : (x + kI 1).toInt = ((k + 1 : Nat) : Int) := by rw [i_add1 (by omega)]; omega
      have both : ∀ {y v4 : Int32} {N7 : pMem}, y = N6 226 k → bo y → D_132 y N6 v4 N7 → (tIf (¬ v4 = (kI 1)) (tGd (pIn x 24) <| tPut (aPut N7 226 k (kI 0)) fun M8 => tGd (pIn x 24) <| tCall (D_132 (M8 227 k) M8) fun v5 M9 => tGd (pIn x 24) <| tPut (aPut M9 227 k v5) fun M10 => fun (_ : Unit) N => ∀ k : Nat, (x + kI 1).toInt = k → k ≤ 24 → cpI 79 229 imP w M0 (4467 + 5 * k) M10 → cpI 79 229 imP w M0 5163 N)
          (tGd (pIn x 24) <| tPut (aPut N7 226 k (kI 1)) fun M8 => tGd (pIn x 24) <| tCall (D_132 (M8 227 k) M8) fun v5 M9 => tGd (pIn x 24) <| tPut (aPut M9 227 k v5) fun M10 => fun (_ : Unit) N => ∀ k : Nat, (x + kI 1).toInt = k → k ≤ 24 → cpI 79 229 imP w M0 (4467 + 5 * k) M10 → cpI 79 229 imP w M0 5163 N)) v N → cpI 79 229 imP w M0 5163 N := by
        intro y v4 N7 hy hby c4 hs
        rcases hs with ⟨g8, _, N8, e8, _, v5, N9, c5, _, N10, e10, hs⟩ | ⟨g8, _, N8, e8, _, v5, N9, c5, _, N10, e10, hs⟩
        · have v0 : v4 = kI 0 := (v4b hby c4).resolve_right g8
          exact hs (k + 1) nx (by omega) (fin hy c4 (by rw [v0]; exact e8) c5 e10)
        · have v1 : v4 = kI 1 := Classical.not_not.mp g8
          exact hs (k + 1) nx (by omega) (fin hy c4 (by rw [v1]; exact e8) c5 e10)
      rcases hs with ⟨g7, v4, N7, c4, hs⟩ | ⟨g7, v4, N7, c4, hs⟩
      · exact both (show kI 0 = N6 226 k from g7.symm) (Or.inl rfl) c4 hs
      · exact both (show kI 1 = N6 226 k from (b6.resolve_left g7).symm) (Or.inr rfl) c4 hs
  · intro x M v N hs k hx hk hi
    rcases hs with ⟨g, _, hN⟩ | ⟨g, _, u1, N1, c1, _, N2, q1, hs⟩
    · rw [i_le, hx, kI_toInt (by decide) (by decide)] at g
      rw [show k = 576 by omega] at hi
      rw [hN]
      exact hi
    · rw [i_le, hx, kI_toInt (by decide) (by decide)] at g
      rw [ix_of hx] at c1 q1
      have j1 := im_step hi (by omega) (im_4587 (by omega)) c1 q1
      exact hs (k + 1) (by rw [i_add1 (by omega)]; omega) (by omega) (by rw [show 4587 + (k + 1) = 4587 + k + 1 by omega]; exact j1)
theorem L_135_9_w {p1 : Int32} {M0 : pMem} {v : Int32} {N : pMem} (h : L_135_9 p1 (kI 0) M0 v N) : ∃ M M1 M2 u1 u2, (∀ k, k < 1200 → M 229 (7000 + k) = M0 222 k) ∧ (∀ a j, ¬ (a = 229 ∧ 7000 ≤ j) → M a j = M0 a j) ∧ D_133 (aPut M 188 79 (kI 0)) u1 M1 ∧ D_134 M1 u2 M2 ∧ v = kI 1 ∧ N = M2 := by
  have go := h (fun x M v N => True, fun x M v N => ∀ k : Nat, x.toInt = k → k ≤ 1200 → (∀ i, i < k → M 229 (7000 + i) = M0 222 i) → (∀ a j, ¬ (a = 229 ∧ 7000 ≤ j) → M a j = M0 a j) →
    ∃ M M1 M2 u1 u2, (∀ k, k < 1200 → M 229 (7000 + k) = M0 222 k) ∧ (∀ a j, ¬ (a = 229 ∧ 7000 ≤ j) → M a j = M0 a j) ∧ D_133 (aPut M 188 79 (kI 0)) u1 M1 ∧ D_134 M1 u2 M2 ∧ v = kI 1 ∧ N = M2) ⟨fun _ _ _ _ _ => trivial, ?_⟩
  · exact go 0 rfl (by omega) (fun i hi => absurd hi (Nat.not_lt_zero i)) (fun _ _ _ => rfl)
  · intro x M v N hs k hx hk h1 h2
    rcases hs with ⟨g, M1, e1, u1, M2, h133, u2, M3, h134, hv, hN⟩ | ⟨g, _, _, M1, e1, hs⟩
    · rw [i_le, hx, kI_toInt (by decide) (by decide)] at g
      rw [e1] at h133
      have : k = 1200 := by omega
      subst this
      exact ⟨M, M2, M3, u1, u2, h1, h2, h133, h134, hv, hN⟩
    · rw [i_le, hx, kI_toInt (by decide) (by decide)] at g
      have ei : ix (kI 7000 + x) = 7000 + k := ix_of (by rw [i_add (by rw [kI_toInt (by decide) (by decide)]; omega) (by rw [kI_toInt (by decide) (by decide)]; omega), kI_toInt (by decide) (by decide), hx]; omega)
      rw [ei, ix_of hx] at e1
      refine hs (k + 1) (by rw [i_add1 (by omega)]; omega) (by omega) (fun i hi => ?_) (fun a j hj => ?_)
      · rw [e1, aPut_row]
        by_cases q : i = k
        · rw [if_pos (by omega), q]
          exact h2 222 k (by omega)
        · rw [if_neg (by omega)]
          exact h1 i (by omega)
      · rw [e1]
        by_cases q : a = 229
        · subst q
          rw [aPut_at (by omega)]
          exact h2 229 j hj
        · rw [aPut_cell q]
          exact h2 a j hj
theorem L_135_5_w {p1 : Int32} {M0 : pMem} {v : Int32} {N : pMem} (h : L_135_5 p1 (kI 0) M0 v N) (hp : p1 = 0) : ∃ M M1 M2 M3 u1 u2 u3, (∀ k, k < 1200 → M 222 k = M0 229 (7000 + k)) ∧ (∀ a j, a ≠ 222 → M a j = M0 a j) ∧ D_108 p1 M u1 M1 ∧ D_133 (aPut M1 188 79 (kI 0)) u2 M2 ∧ D_134 M2 u3 M3 ∧ v = kI 1 ∧ N = M3 := by
  have go := h (fun x M v N => ∀ k : Nat, x.toInt = k → k ≤ 1200 → (∀ i, i < k → M 222 i = M0 229 (7000 + i)) → (∀ a j, a ≠ 222 → M a j = M0 a j) →
    ∃ M M1 M2 M3 u1 u2 u3, (∀ k, k < 1200 → M 222 k = M0 229 (7000 + k)) ∧ (∀ a j, a ≠ 222 → M a j = M0 a j) ∧ D_108 p1 M u1 M1 ∧ D_133 (aPut M1 188 79 (kI 0)) u2 M2 ∧ D_134 M2 u3 M3 ∧ v = kI 1 ∧ N = M3, fun x M v N => True) ⟨?_, fun _ _ _ _ _ => trivial⟩
  · exact go 0 rfl (by omega) (fun i hi => absurd hi (Nat.not_lt_zero i)) (fun _ _ _ => rfl)
  · intro x M v N hs k hx hk h1 h2
    rcases hs with ⟨g, u1, M1, h108, hs⟩ | ⟨g, _, _, M1, e1, hs⟩
    · rw [i_le, hx, kI_toInt (by decide) (by decide)] at g
      have : k = 1200 := by omega
      subst this
      obtain ⟨M2, e2, u2, M3, h133, u3, M4, h134, hv, hN⟩ := tIf_p hp hs
      rw [e2] at h133
      exact ⟨M, M1, M3, M4, u1, u2, u3, h1, h2, h108, h133, h134, hv, hN⟩
    · rw [i_le, hx, kI_toInt (by decide) (by decide)] at g
      have ei : ix (kI 7000 + x) = 7000 + k := ix_of (by rw [i_add (by rw [kI_toInt (by decide) (by decide)]; omega) (by rw [kI_toInt (by decide) (by decide)]; omega), kI_toInt (by decide) (by decide), hx]; omega)
      rw [ei, ix_of hx] at e1
      refine hs (k + 1) (by rw [i_add1 (by omega)]; omega) (by omega) (fun i hi => ?_) (fun a j hj => ?_)
      · rw [e1, aPut_row]
        by_cases q : i = k
        · rw [if_pos q, q]
          exact h2 229 _ (by omega)
        · rw [if_neg q]
          exact h1 i (by omega)
      · rw [e1, aPut_cell hj]
        exact h2 a j hj
/-- a place that the image's own counters and rows don't take -/
def imN (a j : Nat) : Prop := a ≠ 222 ∧ a ≠ 229 ∧ ¬ (a = 188 ∧ (j = 0 ∨ j = 68 ∨ j = 69 ∨ j = 77 ∨ j = 79))
theorem imN_as {i : Nat} (h : i < 1122) : imN (asP i).1 (asP i).2 := by
  have ck : (List.range 1122).all (fun i => (!Nat.beq (asP i).1 222 && !Nat.beq (asP i).1 229) && !(Nat.beq (asP i).1 188 && (Nat.beq (asP i).2 0 || (Nat.beq (asP i).2 68 || (Nat.beq (asP i).2 69 || (Nat.beq (asP i).2 77 || Nat.beq (asP i).2 79)))))) = true := by decide +kernel
  have := List.all_eq_true.mp ck i (List.mem_range.mpr h)
  have q : ∀ {x y : Nat}, Nat.beq x y = false → ¬ x = y := fun h e => by rw [e, Nat.beq_refl] at h; cases h
  simp only [Bool.and_eq_true, Bool.not_eq_true', Bool.and_eq_false_iff, Bool.or_eq_false_iff] at this
  obtain ⟨⟨t1, t2⟩, t3⟩ := this
  refine ⟨q t1, q t2, fun e => ?_⟩
  rcases t3 with t | ⟨a1, a2, a3, a4, a5⟩
  · exact q t e.1
  · rcases e.2 with e | e | e | e | e
    · exact q a1 e
    · exact q a2 e
    · exact q a3 e
    · exact q a4 e
    · exact q a5 e
theorem imN_im {i : Nat} (h : i < 5163) : imN (imP i).1 (imP i).2 := by
  have ck : (List.range 5163).all (fun i => (!Nat.beq (imP i).1 222 && !Nat.beq (imP i).1 229) && !(Nat.beq (imP i).1 188 && (Nat.beq (imP i).2 0 || (Nat.beq (imP i).2 68 || (Nat.beq (imP i).2 69 || (Nat.beq (imP i).2 77 || Nat.beq (imP i).2 79)))))) = true := by decide +kernel
  have := List.all_eq_true.mp ck i (List.mem_range.mpr h)
  have q : ∀ {x y : Nat}, Nat.beq x y = false → ¬ x = y := fun h e => by rw [e, Nat.beq_refl] at h; cases h
  simp only [Bool.and_eq_true, Bool.not_eq_true', Bool.and_eq_false_iff, Bool.or_eq_false_iff] at this
  obtain ⟨⟨t1, t2⟩, t3⟩ := this
  refine ⟨q t1, q t2, fun e => ?_⟩
  rcases t3 with t | ⟨a1, a2, a3, a4, a5⟩
  · exact q t e.1
  · rcases e.2 with e | e | e | e | e
    · exact q a1 e
    · exact q a2 e
    · exact q a3 e
    · exact q a4 e
    · exact q a5 e
/-- the image is taken -/
theorem D_135_put {p1 : Int32} {M : pMem} {v : Int32} {N : pMem} (h : D_135 p1 M v N) (hp : ¬ p1 = 0) (hb : ∀ b, b < 24 → bo (M 226 b)) : v = kI 1 ∧ N 188 77 = kI 1 ∧ (∀ i, i < 5163 → N 229 i = M (imP i).1 (imP i).2) ∧ (∀ i, i < 1122 → N 229 (7000 + i) = M (asP i).1 (asP i).2) ∧ ∀ a j, imN a j → N a j = M a j := by
  obtain ⟨M1, e1, h⟩ := h
  obtain ⟨M2, e2, h⟩ := tIf_p hp h
  obtain ⟨u, M3, h108, h⟩ := tIf_p hp h
  have h := tIf_n hp h
  obtain ⟨M4, M5, M6, u1, u2, b1, b2, h133, h134, hv, hN⟩ := L_135_9_w h
  obtain ⟨a1, a2⟩ := D_108_put h108 hp
  have m2 : ∀ a j, imN a j → M2 a j = M a j := fun a j q => by
    obtain ⟨q1, q2, q3⟩ := q
    by_cases ea : a = 188
    · subst ea
      rw [e2, aPut_at (by omega), e1, aPut_at (by omega)]
    · rw [e2, aPut_cell ea, e1, aPut_cell ea]
  have m3 : ∀ a j, imN a j → M3 a j = M a j := fun a j q => by
    rw [a2 a j q.1 (fun e => q.2.2 ⟨e.1, by omega⟩)]
    exact m2 a j q
  have m4 : ∀ a j, imN a j → M4 a j = M a j := fun a j q => by
    rw [b2 a j (fun e => q.2.1 e.1)]
    exact m3 a j q
  have m4' : ∀ a j, imN a j → aPut M4 188 79 (kI 0) a j = M a j := fun a j q => by
    rw [← m4 a j q]
    by_cases ea : a = 188
    · subst ea
      exact aPut_at (fun e => q.2.2 ⟨rfl, by omega⟩)
    · exact aPut_cell ea
  have f69 : ¬ M4 188 69 = 0 := by
    rw [b2 188 69 (by omega)]
    obtain ⟨M0, e0, _, c, _⟩ := D_108_w h108
    exact c.mp hp
  have i_0 : cpI 79 229 imP (¬ p1 = 0) (aPut M4 188 79 (kI 0)) 0 (aPut M4 188 79 (kI 0)) := cp_begin aPut_same (by rw [aPut_at (by decide)]; exact ⟨fun _ => f69, fun _ => hp⟩)
  have i1 := D_133_w i_0 h133
  have i2 := D_134_w i1 (fun _ b hb' => by rw [m4' 226 b ⟨by decide, by decide, by omega⟩]; exact hb b hb') (fun q => absurd hp q) h134
  obtain ⟨_, _, c, _⟩ := i2
  obtain ⟨c1, c2⟩ := c hp
  rw [hN]
  refine ⟨hv, ?_, fun i hi => ?_, fun i hi => ?_, fun a j q => ?_⟩
  · rw [c2 188 77 (by decide) (by omega), aPut_at (by decide), b2 188 77 (by omega), a2 188 77 (by decide) (by omega), e2, aPut_same]
  · rw [c1 i, if_pos hi]
    exact m4' _ _ (imN_im hi)
  · rw [c1, if_neg (by omega), aPut_cell (by decide), b1 i (by omega), a1 i hi]
    exact m2 _ _ (imN_as hi)
  · rw [c2 a j q.2.1 (fun e => q.2.2 ⟨e.1, by omega⟩)]
    exact m4' a j q
/-- gone back to it -/
theorem D_135_get {p1 : Int32} {M : pMem} {v : Int32} {N : pMem} (h : D_135 p1 M v N) (hp : p1 = 0) (ht : ¬ M 188 77 = 0) (hb : ∀ b, b < 24 → bo (M 226 b) ∧ bo (M 229 (4470 + 5 * b))) : v = kI 1 ∧ N 188 77 = kI 1 ∧ (∀ i, i < 5163 → N (imP i).1 (imP i).2 = M 229 i) ∧ (∀ i, i < 1122 → N (asP i).1 (asP i).2 = M 229 (7000 + i)) ∧ (∀ i, N 229 i = M 229 i) ∧ ∀ a j, imN a j → (∀ i, i < 5163 → ¬ ((imP i).1 = a ∧ (imP i).2 = j)) → (∀ i, i < 1122 → ¬ ((asP i).1 = a ∧ (asP i).2 = j)) → N a j = M a j := by
  obtain ⟨M1, e1, h⟩ := h
  have h := tIf_n (nn hp) h
  have h := tIf_p (by rw [e1, aPut_at (by decide)]; exact ht) h
  obtain ⟨M2, e2, h⟩ := h
  have h := tIf_n (nn hp) h
  obtain ⟨M3, M4, M5, M6, u1, u2, u3, b1, b2, h108, h133, h134, hv, hN⟩ := L_135_5_w h hp
  obtain ⟨a1, a2, a3⟩ := D_108_get h108 hp
  have m2 : ∀ a j, imN a j → M2 a j = M a j := fun a j q => by
    obtain ⟨q1, q2, q3⟩ := q
    by_cases ea : a = 188
    · subst ea
      rw [e2, aPut_at (by omega), e1, aPut_at (by omega)]
    · rw [e2, aPut_cell ea, e1, aPut_cell ea]
  have m2i : ∀ j, M2 229 j = M 229 j := fun j => by rw [e2, aPut_cell (by decide), e1, aPut_cell (by decide)]
  have ra : ∀ i, i < 1122 → (asP i).1 ≠ 229 ∧ (asP i).1 ≠ 226 ∧ ¬ ((asP i).1 = 188 ∧ (asP i).2 = 69) := fun i hi => by
    have ck : (List.range 1122).all (fun i => (!Nat.beq (asP i).1 229 && !Nat.beq (asP i).1 226) && !(Nat.beq (asP i).1 188 && Nat.beq (asP i).2 69)) = true := by decide +kernel
    have := List.all_eq_true.mp ck i (List.mem_range.mpr hi)
    have q : ∀ {x y : Nat}, Nat.beq x y = false → ¬ x = y := fun h e => by rw [e, Nat.beq_refl] at h; cases h
    simp only [Bool.and_eq_true, Bool.not_eq_true', Bool.and_eq_false_iff] at this
    refine ⟨q this.1.1, q this.1.2, fun e => ?_⟩
    rcases this.2 with t | t
    · exact q t e.1
    · exact q t e.2
  have m4i : ∀ j, M4 229 j = M 229 j := fun j => by
    rw [a3 229 j (fun i hi e => (ra i hi).1 e.1) (by omega), b2 229 j (by decide), m2i]
  have m4b : ∀ j, M4 226 j = M 226 j := fun j => by
    rw [a3 226 j (fun i hi e => (ra i hi).2.1 e.1) (by omega), b2 226 j (by decide), m2 226 j ⟨by decide, by decide, by omega⟩]
  have m4' : ∀ a j, ¬ (a = 188 ∧ j = 79) → aPut M4 188 79 (kI 0) a j = M4 a j := fun a j q => by
    by_cases ea : a = 188
    · subst ea
      exact aPut_at (fun e => q ⟨rfl, e⟩)
    · exact aPut_cell ea
  have f69 : M4 188 69 = 0 := by
    obtain ⟨M0, e0, _, c, _⟩ := D_108_w h108
    exact Classical.byContradiction fun q => absurd hp (c.mpr q)
  have i_0 : cpI 79 229 imP (¬ p1 = 0) (aPut M4 188 79 (kI 0)) 0 (aPut M4 188 79 (kI 0)) := cp_begin aPut_same (by rw [aPut_at (by decide)]; exact ⟨fun q => absurd hp q, fun q => absurd f69 q⟩)
  have i1 := D_133_w i_0 h133
  have i2 := D_134_w i1 (fun q => absurd hp q) (fun _ b hb' => by rw [m4' 229 _ (by omega), m4' 226 _ (by omega), m4i, m4b]; exact ⟨(hb b hb').2, (hb b hb').1⟩) h134
  obtain ⟨_, _, _, c⟩ := i2
  obtain ⟨c1, c2, c3⟩ := c (nn hp)
  -- no place is of both
  have dj : ∀ i, i < 1122 → ∀ k, k < 5163 → ¬ ((imP k).1 = (asP i).1 ∧ (imP k).2 = (asP i).2) := by
    intro i hi k hk e
    have ck : (List.range 1122).all (fun i => !(Nat.beq (asP i).1 204 || (Nat.beq (asP i).1 209 || (Nat.beq (asP i).1 213 || (Nat.beq (asP i).1 223 || (Nat.beq (asP i).1 189 || (Nat.beq (asP i).1 190 || (Nat.beq (asP i).1 193 || (Nat.beq (asP i).1 226 || (Nat.beq (asP i).1 227 || (Nat.beq (asP i).1 195 || (Nat.ble 205 (asP i).1 || (Nat.beq (asP i).1 188 && (Nat.beq (asP i).2 2 || Nat.beq (asP i).2 71)))))))))))))) = true := by decide +kernel
    have ck2 : (List.range 5163).all (fun i => (Nat.beq (imP i).1 204 || (Nat.beq (imP i).1 209 || (Nat.beq (imP i).1 213 || (Nat.beq (imP i).1 223 || (Nat.beq (imP i).1 189 || (Nat.beq (imP i).1 190 || (Nat.beq (imP i).1 193 || (Nat.beq (imP i).1 226 || (Nat.beq (imP i).1 227 || (Nat.beq (imP i).1 195 || (Nat.ble 205 (imP i).1 || (Nat.beq (imP i).1 188 && (Nat.beq (imP i).2 2 || Nat.beq (imP i).2 71)))))))))))))) = true := by decide +kernel
    have t1 := List.all_eq_true.mp ck i (List.mem_range.mpr hi)
    have t2 := List.all_eq_true.mp ck2 k (List.mem_range.mpr hk)
    rw [e.1, e.2] at t2
    rw [t2] at t1
    cases t1
  rw [hN]
  refine ⟨hv, ?_, fun i hi => ?_, fun i hi => ?_, fun i => ?_, fun a j q q1 q2 => ?_⟩
  · have n77 : ∀ i, i < 5163 → ¬ ((imP i).1 = 188 ∧ (imP i).2 = 77) := fun i hi e => (imN_im hi).2.2 ⟨e.1, by omega⟩
    have n77' : ∀ i, i < 1122 → ¬ ((asP i).1 = 188 ∧ (asP i).2 = 77) := fun i hi e => (imN_as hi).2.2 ⟨e.1, by omega⟩
    rw [c3 188 77 n77 (by omega), m4' 188 77 (by omega), a3 188 77 n77' (by omega), b2 188 77 (by decide), e2, aPut_same]
  · rw [c2 i hi, m4' 229 i (by omega), m4i]
  · rw [c3 _ _ (fun k hk => dj i hi k hk) (fun e => (imN_as hi).2.2 ⟨e.1, by omega⟩), m4' _ _ (fun e => (imN_as hi).2.2 ⟨e.1, by omega⟩), a1 i hi, b1 i (by omega), m2i]
  · rw [c1 i, m4' 229 i (by omega), m4i]
  · rw [c3 a j q1 (fun e => q.2.2 ⟨e.1, by omega⟩), m4' a j (fun e => q.2.2 ⟨e.1, by omega⟩), a3 a j q2 (fun e => q.2.2 ⟨e.1, by omega⟩), b2 a j q.1]
    exact m2 a j q
/-- no image: nothing -/
theorem D_135_no {p1 : Int32} {M : pMem} {v : Int32} {N : pMem} (h : D_135 p1 M v N) (hp : p1 = 0) (ht : M 188 77 = 0) : v = kI 0 ∧ N = aPut M 188 0 (kI 0) := by
  obtain ⟨M1, e1, h⟩ := h
  have h := tIf_n (nn hp) h
  obtain ⟨hv, hN⟩ := tIf_n (by rw [e1, aPut_at (by decide)]; exact nn ht) h
  exact ⟨hv, hN.trans e1⟩
