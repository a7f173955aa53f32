/-! seen: both sides say the same -/
def seC (V : pMem) (s : Int32) (i j : Nat) : Bool := !decide (i = j) && (thV V i && (thV V j && decide ((if V 189 i = V 189 j then kI 1 else kI 0) = s)))
def seG (o : List Cd) (L : List Ln) (V : pMem) (p : Int32) (i j : Nat) : Int32 := f_39 (Int32.toInt64 p + Int32.toInt64 (tl (FcV V i j) o (kI 18) L)) (kI 0) (kI 9999)
def seA (o : List Cd) (L : List Ln) (V : pMem) (p s : Int32) : Int32 := f_43 (s2 (seC V s) (seG o L V p) 24) (s2 (seC V s) u1 24)
def oS (c : Nat → Nat → Bool) (g : Nat → Nat → Int32) (n i : Nat) : Int32 := sm (fun a => sm (tR c g a) n) i
theorem oS_s {c : Nat → Nat → Bool} {g : Nat → Nat → Int32} {n i : Nat} : oS c g n (i + 1) = oS c g n i + sm (tR c g i) n := rfl
theorem oS_n {c : Nat → Nat → Bool} {g : Nat → Nat → Int32} {n : Nat} : oS c g n n = s2 c g n := rfl
theorem tR_0 {c : Nat → Nat → Bool} {g : Nat → Nat → Int32} {i n : Nat} (h : ∀ j, c i j = false) : sm (tR c g i) n = 0 := sm_0 fun j _ => tR_n (h j)
theorem sm_no {c : Nat → Nat → Bool} {g : Nat → Nat → Int32} {i j : Nat} {x y : Int32} (h : c i j = false) (hx : x = y + sm (tR c g i) j) : x = y + sm (tR c g i) (j + 1) := by
  rw [sm_s, tR_n h, hx]
  exact congrArg (fun z => y + z) (Int32.add_zero _).symm
theorem sm_yes {c : Nat → Nat → Bool} {g : Nat → Nat → Int32} {i j : Nat} {x y z : Int32} (h : c i j = true) (hx : x = y + sm (tR c g i) j) (hz : z = g i j) : x + z = y + sm (tR c g i) (j + 1) := by
  rw [sm_s, tR_y h, hx, hz]
  exact Int32.add_assoc _ _ _
theorem seC_n1 {V : pMem} {s : Int32} {i j : Nat} (h : i = j ∨ thV V i = false ∨ thV V j = false ∨ ¬ (if V 189 i = V 189 j then kI 1 else kI 0) = s) : seC V s i j = false := by
  unfold seC
  rcases h with h | h | h | h
  · rw [decide_eq_true h]; rfl
  · rw [h, Bool.false_and, Bool.and_false]
  · rw [h, Bool.false_and, Bool.and_false, Bool.and_false]
  · rw [decide_eq_false h, Bool.and_false, Bool.and_false, Bool.and_false]
theorem seC_y {V : pMem} {s : Int32} {i j : Nat} (h1 : ¬ i = j) (h2 : thV V i = true) (h3 : thV V j = true) (h4 : (if V 189 i = V 189 j then kI 1 else kI 0) = s) : seC V s i j = true := by
  unfold seC
  rw [decide_eq_false h1, h2, h3, decide_eq_true h4]
  rfl
theorem D_192_v {l : Nat} (hl : pK 2 l = true) {M V : pMem} (hV : rV V) (h : rW 19 M V) {o : List Cd} {L : List Ln} (hc : cLk M l o L) {p3 p4 v : Int32} {N : pMem} (hD : D_192 19 l p3 p4 M v N) : v = seA o L V p3 p4 ∧ ∀ a, (a < 132 ∨ 137 < a) → a ≠ l + 6 → N a = M a := by
  have nl : ∀ j, j < 5 → 19 + j ≠ l + 6 := fun j hj e => lwCell hl (w := 19) (by decide +kernel) 6 (by decide) j hj e.symm
  have cl := lCell hl
  refine hD (fun x5 x6 x7 M' v N => ∀ i : Nat, x7.toInt = i → i ≤ 24 → (∀ a, (a < 132 ∨ 137 < a) → a ≠ l + 6 → M' a = M a) → x5 = oS (seC V p4) (seG o L V p3) 24 i → x6 = oS (seC V p4) u1 24 i → v = seA o L V p3 p4 ∧ ∀ a, (a < 132 ∨ 137 < a) → a ≠ l + 6 → N a = M a,
    fun x5 x6 x7 x8 M' v N => ∀ i j : Nat, x7.toInt = i → x8.toInt = j → i < 24 → j ≤ 24 → (∀ a, (a < 132 ∨ 137 < a) → a ≠ l + 6 → M' a = M a) → x5 = oS (seC V p4) (seG o L V p3) 24 i + sm (tR (seC V p4) (seG o L V p3) i) j → x6 = oS (seC V p4) u1 24 i + sm (tR (seC V p4) u1 i) j → v = seA o L V p3 p4 ∧ ∀ a, (a < 132 ∨ 137 < a) → a ≠ l + 6 → N a = M a) ⟨?_, ?_⟩ 0 rfl (Nat.zero_le _) (fun _ _ _ => rfl) rfl rfl
  · intro x5 x6 x7 M' v N hs i hi hi24 hM h5 h6
    rcases hs with ⟨g, hv, hN⟩ | ⟨g, hs⟩
    · rw [i_le, hi, kI_toInt (by decide) (by decide)] at g
      have e : i = 24 := by omega
      rw [e, oS_n] at h5 h6
      obtain ⟨k, k1, k2⟩ := s2_n (c := seC V p4) (n := 24)
      have k2 : s2 (seC V p4) u1 24 = kI (k : Nat) := k2
      refine ⟨?_, by rw [hN]; exact hM⟩
      rw [hv, f38_43 (by rw [h6, k2, kI_toInt (by omega) (by omega)]; omega), h5, h6]
      rfl
    · rw [i_le, hi, kI_toInt (by decide) (by decide)] at g
      exact hs i 0 hi rfl (by omega) (by omega) hM (by rw [h5]; exact (Int32.add_zero _).symm) (by rw [h6]; exact (Int32.add_zero _).symm)
  · intro x5 x6 x7 x8 M' v N hs i j hi hj hi24 hj24 hM h5 h6
    have hW : rW 19 M' V := rW_eq h fun j hj => hM _ (by omega) (nl j hj)
    have hcl : cLk M' l o L := cLk_c hc fun b q1 q2 => hM b (by omega) (by omega)
    have nx : (x7 + kI 1).toInt = ((i + 1 : Nat) : Int) := n_add1 hi (by omega)
    rcases hs with ⟨g, hs⟩ | ⟨g, hs⟩
    · have t := (f37_th hV hW hi hi24).1.mp g
      have z : ∀ j, seC V p4 i j = false := fun j => seC_n1 (Or.inr (Or.inl t))
      refine hs (i + 1) nx (by omega) hM ?_ ?_
      · rw [h5, oS_s, tR_0 z, tR_0 z]
      · rw [h6, oS_s, tR_0 z, tR_0 z]
    · have ti := (f37_th hV hW hi hi24).2.mp g
      rcases hs with ⟨g2, hs⟩ | ⟨g2, hs⟩
      · rw [i_le, hj, kI_toInt (by decide) (by decide)] at g2
        have e : j = 24 := by omega
        rw [e] at h5 h6
        exact hs (i + 1) nx (by omega) hM h5 h6
      · rw [i_le, hj, kI_toInt (by decide) (by decide)] at g2
        have j24 : j < 24 := by omega
        have ny : (x8 + kI 1).toInt = ((j + 1 : Nat) : Int) := n_add1 hj (by omega)
        rcases hs with ⟨g3, hs⟩ | ⟨g3, hs⟩
        · have e : i = j := by rw [g3, hi] at hj; omega
          exact hs i (j + 1) hi ny hi24 (by omega) hM (sm_no (seC_n1 (Or.inl e)) h5) (sm_no (seC_n1 (Or.inl e)) h6)
        · have ne : ¬ i = j := fun e => g3 (Int32.toInt_inj.mp (by rw [hi, hj, e]))
          rcases hs with ⟨g4, hs⟩ | ⟨g4, hs⟩
          · have t := (f37_th hV hW hj j24).1.mp g4
            exact hs i (j + 1) hi ny hi24 (by omega) hM (sm_no (seC_n1 (Or.inr (Or.inr (Or.inl t)))) h5) (sm_no (seC_n1 (Or.inr (Or.inr (Or.inl t)))) h6)
          · have tj := (f37_th hV hW hj j24).2.mp g4
            rw [f225_V hV hW hi hi24, f225_V hV hW hj j24] at hs
            have skip : ¬ (if V 189 i = V 189 j then kI 1 else kI 0) = p4 → (fun (x5 x6 x7 x8 : Int32) (M' : pMem) (v : Int32) (N : pMem) => ∀ i j : Nat, x7.toInt = i → x8.toInt = j → i < 24 → j ≤ 24 → (∀ a, (a < 132 ∨ 137 < a) → a ≠ l + 6 → M' a = M a) → x5 = oS (seC V p4) (seG o L V p3) 24 i + sm (tR (seC V p4) (seG o L V p3) i) j → x6 = oS (seC V p4) u1 24 i + sm (tR (seC V p4) u1 i) j → v = seA o L V p3 p4 ∧ ∀ a, (a < 132 ∨ 137 < a) → a ≠ l + 6 → N a = M a) x5 x6 x7 (x8 + kI 1) M' v N → v = seA o L V p3 p4 ∧ ∀ a, (a < 132 ∨ 137 < a) → a ≠ l + 6 → N a = M a := fun q hs =>
              hs i (j + 1) hi ny hi24 (by omega) hM (sm_no (seC_n1 (Or.inr (Or.inr (Or.inr q)))) h5) (sm_no (seC_n1 (Or.inr (Or.inr (Or.inr q)))) h6)
            have take : ∀ {v1 : Int32} {M1 : pMem}, (if V 189 i = V 189 j then kI 1 else kI 0) = p4 → D_191 19 l x7 x8 p3 M' v1 M1 → (fun (x5 x6 x7 x8 : Int32) (M' : pMem) (v : Int32) (N : pMem) => ∀ i j : Nat, x7.toInt = i → x8.toInt = j → i < 24 → j ≤ 24 → (∀ a, (a < 132 ∨ 137 < a) → a ≠ l + 6 → M' a = M a) → x5 = oS (seC V p4) (seG o L V p3) 24 i + sm (tR (seC V p4) (seG o L V p3) i) j → x6 = oS (seC V p4) u1 24 i + sm (tR (seC V p4) u1 i) j → v = seA o L V p3 p4 ∧ ∀ a, (a < 132 ∨ 137 < a) → a ≠ l + 6 → N a = M a) (x5 + v1) (x6 + kI 1) x7 (x8 + kI 1) M1 v N → v = seA o L V p3 p4 ∧ ∀ a, (a < 132 ∨ 137 < a) → a ≠ l + 6 → N a = M a := fun q h191 hs => by
              obtain ⟨e1, e2⟩ := D_191_v hl hV hW hcl hi hj hi24 j24 h191
              have y := seC_y ne ti tj q
              exact hs i (j + 1) hi ny hi24 (by omega) (fun a q1 q2 => by rw [e2 a (by omega) q2]; exact hM a q1 q2) (sm_yes y h5 e1) (sm_yes y h6 rfl)
            rcases hs with ⟨g5, hs⟩ | ⟨g5, hs⟩
            · rcases hs with ⟨g6, hs⟩ | ⟨g6, v1, M1, h191, hs⟩
              · exact skip (by rw [if_neg g5]; exact g6) hs
              · exact take (by rw [if_neg g5]; exact Classical.not_not.mp g6) h191 hs
            · have g5 := Classical.not_not.mp g5
              rcases hs with ⟨g6, hs⟩ | ⟨g6, v1, M1, h191, hs⟩
              · exact skip (by rw [if_pos g5]; exact g6) hs
              · exact take (by rw [if_pos g5]; exact Classical.not_not.mp g6) h191 hs
theorem D_127_v {k : Nat} {o : List Cd} {L : List Ln} {M V : pMem} (hs0 : sc V M) (hV : rV V) (hc : rLk V k o L) {n : Nat} (hn : rNb V n) {p1 p2 v : Int32} {N : pMem} (hD : D_127 p1 p2 M v N) : v = seA o L V p1 p2 ∧ sc V N := by
  obtain ⟨n24, hn2, hn3⟩ := id hn
  have far : ∀ i j, i < 24 → j < 24 → (n ≤ i ∨ n ≤ j) → seC V p2 i j = false := fun i j hi hj q => by
    rcases q with q | q
    · exact seC_n1 (Or.inr (Or.inl (thV_0 hn q hi)))
    · exact seC_n1 (Or.inr (Or.inr (Or.inl (thV_0 hn q hj))))
  refine hD (fun x5 x6 x7 M' v N => ∀ i : Nat, x7.toInt = i → i ≤ n → sc V M' → x5 = oS (seC V p2) (seG o L V p1) n i → x6 = oS (seC V p2) u1 n i → v = seA o L V p1 p2 ∧ sc V N,
    fun x5 x6 x7 x8 M' v N => ∀ i j : Nat, x7.toInt = i → x8.toInt = j → i < n → j ≤ n → sc V M' → x5 = oS (seC V p2) (seG o L V p1) n i + sm (tR (seC V p2) (seG o L V p1) i) j → x6 = oS (seC V p2) u1 n i + sm (tR (seC V p2) u1 i) j → v = seA o L V p1 p2 ∧ sc V N) ⟨?_, ?_⟩ 0 rfl (Nat.zero_le _) hs0 rfl rfl
  · intro x5 x6 x7 M' v N hs i hi hin hM h5 h6
    have e2 : M' 188 2 = V 188 2 := (sc_rows hM).2.2.2.2.2 2 (by decide) (by decide)
    rcases hs with ⟨g, hv, hN⟩ | ⟨g, hs⟩
    · rw [i_le, e2, hn2, hi] at g
      have e : i = n := by omega
      rw [e, oS_n] at h5 h6
      refine ⟨?_, by rw [hN]; exact hM⟩
      unfold seA
      rw [hv, h5, h6, s2_ext n24 far, s2_ext n24 far]
    · rw [i_le, e2, hn2, hi] at g
      exact hs i 0 hi rfl (by omega) (by omega) hM (by rw [h5]; exact (Int32.add_zero _).symm) (by rw [h6]; exact (Int32.add_zero _).symm)
  · intro x5 x6 x7 x8 M' v N hs i j hi hj hin hjn hM h5 h6
    obtain ⟨s189, _, s191, _, _, s8⟩ := sc_rows hM
    have e2 : M' 188 2 = V 188 2 := s8 2 (by decide) (by decide)
    have nx : (x7 + kI 1).toInt = ((i + 1 : Nat) : Int) := n_add1 hi (by omega)
    rcases hs with ⟨g2, hs⟩ | ⟨g2, hs⟩
    · rw [i_le, e2, hn2, hj] at g2
      have e : j = n := by omega
      rw [e] at h5 h6
      exact hs (i + 1) nx (by omega) hM h5 h6
    · rw [i_le, e2, hn2, hj] at g2
      have j24 : j < n := by omega
      have ny : (x8 + kI 1).toInt = ((j + 1 : Nat) : Int) := n_add1 hj (by omega)
      rw [ix_of hi, ix_of hj, s191, s189] at hs
      rcases hs with ⟨g3, hs⟩ | ⟨g3, _, hs⟩
      · have e : i = j := by rw [g3, hj] at hi; omega
        exact hs i (j + 1) hi ny hin (by omega) hM (sm_no (seC_n1 (Or.inl e)) h5) (sm_no (seC_n1 (Or.inl e)) h6)
      · have ne : ¬ i = j := fun e => g3 (Int32.toInt_inj.mp (by rw [hi, hj, e]))
        have th0 : ∀ {q : Nat}, V 191 q = 0 → thV V q = false := fun e => by unfold thV; rw [decide_eq_true e]; rfl
        have th1 : ∀ {q : Nat}, ¬ V 191 q = 0 → thV V q = true := fun e => by unfold thV; rw [decide_eq_false e]; rfl
        rcases hs with ⟨g4, hs⟩ | ⟨g4, _, hs⟩
        · exact hs i (j + 1) hi ny hin (by omega) hM (sm_no (seC_n1 (Or.inr (Or.inl (th0 g4)))) h5) (sm_no (seC_n1 (Or.inr (Or.inl (th0 g4)))) h6)
        · rcases hs with ⟨g5, hs⟩ | ⟨g5, _, _, hs⟩
          · exact hs i (j + 1) hi ny hin (by omega) hM (sm_no (seC_n1 (Or.inr (Or.inr (Or.inl (th0 g5))))) h5) (sm_no (seC_n1 (Or.inr (Or.inr (Or.inl (th0 g5))))) h6)
          · have skip : ¬ (if V 189 i = V 189 j then kI 1 else kI 0) = p2 → (fun (x5 x6 x7 x8 : Int32) (M' : pMem) (v : Int32) (N : pMem) => ∀ i j : Nat, x7.toInt = i → x8.toInt = j → i < n → j ≤ n → sc V M' → x5 = oS (seC V p2) (seG o L V p1) n i + sm (tR (seC V p2) (seG o L V p1) i) j → x6 = oS (seC V p2) u1 n i + sm (tR (seC V p2) u1 i) j → v = seA o L V p1 p2 ∧ sc V N) x5 x6 x7 (x8 + kI 1) M' v N → v = seA o L V p1 p2 ∧ sc V N := fun q hs =>
              hs i (j + 1) hi ny hin (by omega) hM (sm_no (seC_n1 (Or.inr (Or.inr (Or.inr q)))) h5) (sm_no (seC_n1 (Or.inr (Or.inr (Or.inr q)))) h6)
            have take : ∀ {v1 : Int32} {M1 : pMem}, (if V 189 i = V 189 j then kI 1 else kI 0) = p2 → D_124 x7 x8 p1 M' v1 M1 → (fun (x5 x6 x7 x8 : Int32) (M' : pMem) (v : Int32) (N : pMem) => ∀ i j : Nat, x7.toInt = i → x8.toInt = j → i < n → j ≤ n → sc V M' → x5 = oS (seC V p2) (seG o L V p1) n i + sm (tR (seC V p2) (seG o L V p1) i) j → x6 = oS (seC V p2) u1 n i + sm (tR (seC V p2) u1 i) j → v = seA o L V p1 p2 ∧ sc V N) (x5 + v1) (x6 + kI 1) x7 (x8 + kI 1) M1 v N → v = seA o L V p1 p2 ∧ sc V N := fun q h124 hs => by
              have e1 := D_124_v (rLk_sc hM hc) hi hj h124
              rw [FcV_sc hM] at e1
              have f := F_124 h124
              have y := seC_y ne (th1 g4) (th1 g5) q
              exact hs i (j + 1) hi ny hin (by omega) (sc_t hM fun a j h1 h2 => f a j h1 h2 (by simp only [l_124, pOut_nil])) (sm_yes y h5 e1) (sm_yes y h6 rfl)
            rcases hs with ⟨g6, hs⟩ | ⟨g6, hs⟩
            · rcases hs with ⟨g7, v1, M1, h124, hs⟩ | ⟨g7, hs⟩
              · exact take (by rw [if_neg g6]; exact g7) h124 hs
              · exact skip (by rw [if_neg g6]; exact g7) hs
            · have g6 := Classical.not_not.mp g6
              rcases hs with ⟨g7, v1, M1, h124, hs⟩ | ⟨g7, hs⟩
              · exact take (by rw [if_pos g6]; exact g7) h124 hs
              · exact skip (by rw [if_pos g6]; exact g7) hs
theorem op_seen_v {p1 p2 v u : Int32} {M M1 M2 : pMem} (h : rF M) (h1 : D_16 p1 p2 M v M1) (h2 : D_128 p1 p2 M1 u M2) : v = u := by
  obtain ⟨hA, hT, _⟩ := h
  obtain ⟨k, o, L, hk, hk4, cl, rl⟩ := force_T hT
  obtain ⟨⟨hV, _⟩, ⟨hW, _⟩, _⟩ := hT
  have hW : rW 19 M M := hW
  have f1 := F_16 h1
  obtain ⟨Ma, ea, h2⟩ := h2
  have m8 : ∀ j, j ≠ 0 → j ≠ 51 → Ma 188 j = M 188 j := fun j q1 q2 => by
    rw [ea, aPut_at q1]
    refine f1 188 j (by decide) ?_ (by simp only [l_16, pOut_nil])
    unfold pScr
    rw [show Nat.beq j 0 = false from Bool.eq_false_iff.mpr fun q => q1 (Nat.eq_of_beq_eq_true q), show Nat.beq j 51 = false from Bool.eq_false_iff.mpr fun q => q2 (Nat.eq_of_beq_eq_true q)]
    rfl
  have mR : ∀ a, a < 230 → pScrA a = false → a ≠ 188 → Ma a = M a := fun a q1 q2 q3 => funext fun j => by
    rw [ea, aPut_cell q3]
    exact f1 a j q1 (pScr_of q2 q3 j) (by simp only [l_16, pOut_nil])
  have hVa : rV Ma := rV_c hV (m8 2 (by decide) (by decide)) (mR 189 (by decide) rfl (by decide)) (mR 191 (by decide) rfl (by decide)) (mR 195 (by decide) rfl (by decide)) (mR 196 (by decide) rfl (by decide))
  have rla : rLk Ma k o L := rLk_v rl (fun b q1 q2 => mR b (by omega) (by
    have e : b = 204 ∨ b = 205 ∨ b = 206 ∨ b = 207 ∨ b = 208 ∨ b = 209 ∨ b = 210 ∨ b = 211 := by omega
    rcases e with rfl | rfl | rfl | rfl | rfl | rfl | rfl | rfl <;> rfl) (by omega)) (m8 4 (by decide) (by decide))
  obtain ⟨n, hn⟩ := hVa.1
  have se : ∀ s, seA o L Ma p1 s = seA o L M p1 s := fun s => by
    have e1 : seC Ma s = seC M s := by
      funext i j
      unfold seC
      rw [thV_c (mR 191 (by decide) rfl (by decide)), mR 189 (by decide) rfl (by decide)]
    have e2 : seG o L Ma p1 = seG o L M p1 := by
      funext i j
      unfold seG
      rw [FcV_c (mR 189 (by decide) rfl (by decide)) (mR 190 (by decide) rfl (by decide)) (mR 194 (by decide) rfl (by decide)) (mR 195 (by decide) rfl (by decide)) fun j q1 q2 => m8 j (by omega) (by omega)]
    unfold seA
    rw [e1, e2]
  have ref : ∀ {X : pMem} {s y : Int32} {Y : pMem}, sc Ma X → D_127 p1 s X y Y → y = seA o L M p1 s ∧ sc Ma Y := fun hs hd => by
    obtain ⟨e1, e2⟩ := D_127_v hs hVa rla hn hd
    exact ⟨by rw [e1, se], e2⟩
  have own : ∀ {X X' : pMem} {s y : Int32} {Y : pMem} {l : Nat}, (∀ a, (a < 132 ∨ 137 < a) → a ≠ 36 + 11 * k → X a = M a) → D_217 X l X' → D_192 19 l p1 s X' y Y → y = seA o L M p1 s ∧ ∀ a, (a < 132 ∨ 137 < a) → a ≠ 36 + 11 * k → Y a = M a := fun {X X' s y Y l} hX h217 hd => by
    have hl := D_217_k h217
    obtain ⟨_, el, eX⟩ := h217
    rw [hX 18 (by decide) (by omega), ix_of hk] at el
    rw [eX] at hd
    have hWX : rW 19 X M := rW_eq hW fun j hj => hX _ (by omega) (by omega)
    have hcX : cLk X l o L := by
      rw [el]
      exact cLk_c cl fun b q1 q2 => hX b (by omega) (by omega)
    obtain ⟨e1, e2⟩ := D_192_v hl hV hWX hcX hd
    exact ⟨e1, fun a q1 q2 => by rw [e2 a q1 (by omega)]; exact hX a q1 q2⟩
  have id0 : ∀ a, (a < 132 ∨ 137 < a) → a ≠ 36 + 11 * k → M a = M a := fun _ _ _ => rfl
  by_cases c : f_36 p1 = 0
  · rw [(tIf_p c h1).1, (tIf_p (show f_42 p1 (kI 0) (kI 999) = 0 from c) h2).1]
  have h1 := tIf_n c h1
  have h2 := tIf_n (show ¬ f_42 p1 (kI 0) (kI 999) = 0 from c) h2
  by_cases d : 0 ≤ p2.toInt ∧ p2.toInt ≤ 2
  · have h1 := tIf_p (by rw [i_le, kI_toInt (by decide) (by decide)]; omega) (tIf_n (by rw [i_lt, i_0]; omega) h1)
    have h2 := tIf_p (f_42_iff.mpr (by rw [i_le, i_le, kI0, kI_toInt (by decide) (by decide)]; exact d)) h2
    by_cases c0 : p2 = kI 0
    · have h1 := tIf_p (show ¬ p2 = kI 1 by rw [c0]; decide) h1
      obtain ⟨l, X, h217, v2, Y, h192, h1⟩ := h1
      have h1 := tIf_n (nn c0) h1
      have h1 := tIf_p (show ¬ p2 = kI 1 by rw [c0]; decide) h1
      obtain ⟨v1, Z, h127, hu, _⟩ := tIf_n (nn c0) h2
      rw [h1.1, hu, (own id0 h217 h192).1, (ref sc_r h127).1]
      exact Int32.sub_zero _
    · have h2 := tIf_p (show ¬ p2 = 0 from c0) h2
      by_cases c1 : p2 = kI 1
      · have h1 := tIf_n (nn c1) h1
        have h1 := tIf_p (show ¬ p2 = 0 from c0) h1
        obtain ⟨l, X, h217, v2, Y, h192, h1⟩ := h1
        have h1 := tIf_n (nn c1) h1
        obtain ⟨v1, Z, h127, hu, _⟩ := tIf_n (nn c1) h2
        rw [h1.1, hu, (own id0 h217 h192).1, (ref sc_r h127).1]
      · have h1 := tIf_p c1 h1
        obtain ⟨l, X, h217, v2, Y, h192, h1⟩ := h1
        have h1 := tIf_p (show ¬ p2 = 0 from c0) h1
        obtain ⟨l', X', h217', v4, Y', h192', h1⟩ := h1
        have h1 := tIf_p c1 h1
        obtain ⟨v1, Z, h127, v3, Z', h127', hu, _⟩ := tIf_p c1 h2
        obtain ⟨a1, a2⟩ := own id0 h217 h192
        obtain ⟨b1, b2⟩ := ref sc_r h127
        rw [h1.1, hu, a1, (own a2 h217' h192').1, b1, (ref b2 h127').1]
  · have h2 := tIf_n (fun q => d (by have q := f_42_iff.mp q; rw [i_le, i_le, kI0, kI_toInt (by decide) (by decide)] at q; exact q)) h2
    rw [h2.1]
    rcases h1 with ⟨_, hv, _⟩ | ⟨g, h1⟩
    · exact hv
    · rw [i_lt, i_0] at g
      exact (tIf_n (by rw [i_le, kI_toInt (by decide) (by decide)]; omega) h1).1
