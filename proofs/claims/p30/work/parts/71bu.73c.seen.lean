/-! seen: both sides say the same -/
def seC (V : pMem) (s : Int32) (i j : Nat) : Bool := !decide (i = j) && (thV V i && (thV V j && decide ((if V 189 i = V 189 j then kI 1 else kI 0) = s)))
def seG (o : List Cd) (L : List Ln) (V : pMem) (p : Int32) (i j : Nat) : Int32 := f_39 (Int32.toInt64 p + Int32.toInt64 (tl (FcV V i j) o (kI 18) L)) (kI 0) (kI 9999)
def seA (o : List Cd) (L : List Ln) (V : pMem) (p s : Int32) : Int32 := f_43 (s2 (seC V s) (seG o L V p) 24) (s2 (seC V s) u1 24)
def oS (c : Nat → Nat → Bool) (g : Nat → Nat → Int32) (n i : Nat) : Int32 := sm (fun a => sm (tR c g a) n) i
theorem oS_s {c : Nat → Nat → Bool} {g : Nat → Nat → Int32} {n i : Nat} : oS c g n (i + 1) = oS c g n i + sm (tR c g i) n := rfl
theorem oS_n {c : Nat → Nat → Bool} {g : Nat → Nat → Int32} {n : Nat} : oS c g n n = s2 c g n := rfl
theorem tR_0 {c : Nat → Nat → Bool} {g : Nat → Nat → Int32} {i n : Nat} (h : ∀ j, c i j = false) : sm (tR c g i) n = 0 := sm_0 fun j _ => tR_n (h j)
theorem sm_no {c : Nat → Nat → Bool} {g : Nat → Nat → Int32} {i j : Nat} {x y : Int32} (h : c i j = false) (hx : x = y + sm (tR c g i) j) : x = y + sm (tR c g i) (j + 1) := by
  rw [sm_s, tR_n h, hx]
  exact congrArg (fun z => y + z) (Int32.add_zero _).symm
theorem sm_yes {c : Nat → Nat → Bool} {g : Nat → Nat → Int32} {i j : Nat} {x y z : Int32} (h : c i j = true) (hx : x = y + sm (tR c g i) j) (hz : z = g i j) : x + z = y + sm (tR c g i) (j + 1) := by
  rw [sm_s, tR_y h, hx, hz]
  exact Int32.add_assoc _ _ _
theorem seC_n1 {V : pMem} {s : Int32} {i j : Nat} (h : i = j ∨ thV V i = false ∨ thV V j = false ∨ ¬ (if V 189 i = V 189 j then kI 1 else kI 0) = s) : seC V s i j = false := by
  unfold seC
  rcases h with h | h | h | h
  · rw [decide_eq_true h]; rfl
  · rw [h, Bool.false_and, Bool.and_false]
  · rw [h, Bool.false_and, Bool.and_false, Bool.and_false]
  · rw [decide_eq_false h, Bool.and_false, Bool.and_false, Bool.and_false]
theorem seC_y {V : pMem} {s : Int32} {i j : Nat} (h1 : ¬ i = j) (h2 : thV V i = true) (h3 : thV V j = true) (h4 : (if V 189 i = V 189 j then kI 1 else kI 0) = s) : seC V s i j = true := by
  unfold seC
  rw [decide_eq_false h1, h2, h3, decide_eq_true h4]
  rfl
theorem D_192_v {l : Nat} (hl : pK 2 l = true) {M V : pMem} (hV : rV V) (h : rW 19 M V) {o : List Cd} {L : List Ln} (hc : cLk M l o L) {p3 p4 v : Int32} {N : pMem} (hD : D_192 19 l p3 p4 M v N) : v = seA o L V p3 p4 ∧ ∀ a, (a < 132 ∨ 137 < a) → a ≠ l + 6 → N a = M a := by
  have nl : ∀ j, j < 5 → 19 + j ≠ l + 6 := fun j hj e => lwCell hl (w := 19) (by decide +kernel) 6 (by decide) j hj e.symm
  have cl := lCell hl
  refine hD (fun x5 x6 x7 M' v N => ∀ i : Nat, x7.toInt = i → i ≤ 24 → (∀ a, (a < 132 ∨ 137 < a) → a ≠ l + 6 → M' a = M a) → x5 = oS (seC V p4) (seG o L V p3) 24 i → x6 = oS (seC V p4) u1 24 i → v = seA o L V p3 p4 ∧ ∀ a, (a < 132 ∨ 137 < a) → a ≠ l + 6 → N a = M a,
    fun x5 x6 x7 x8 M' v N => ∀ i j : Nat, x7.toInt = i → x8.toInt = j → i < 24 → j ≤ 24 → (∀ a, (a < 132 ∨ 137 < a) → a ≠ l + 6 → M' a = M a) → x5 = oS (seC V p4) (seG o L V p3) 24 i + sm (tR (seC V p4) (seG o L V p3) i) j → x6 = oS (seC V p4) u1 24 i + sm (tR (seC V p4) u1 i) j → v = seA o L V p3 p4 ∧ ∀ a, (a < 132 ∨ 137 < a) → a ≠ l + 6 → N a = M a) ⟨?_, ?_⟩ 0 rfl (Nat.zero_le _) (fun _ _ _ => rfl) rfl rfl
  · intro x5 x6 x7 M' v N hs i hi hi24 hM h5 h6
    rcases hs with ⟨g, hv, hN⟩ | ⟨g, hs⟩
    · rw [i_le, hi, kI_toInt (by decide) (by decide)] at g
      have e : i = 24 := by omega
      rw [e, oS_n] at h5 h6
      obtain ⟨k, k1, k2⟩ := s2_n (c := seC V p4) (n := 24)
      have k2 : s2 (seC V p4) u1 24 = kI (k : Nat) := k2
      refine ⟨?_, by rw [hN]; exact hM⟩
      rw [hv, f38_43 (by rw [h6, k2, kI_toInt (by omega) (by omega)]; omega), h5, h6]
      rfl
    · rw [i_le, hi, kI_toInt (by decide) (by decide)] at g
      exact hs i 0 hi rfl (by omega) (by omega) hM (by rw [h5]; exact (Int32.add_zero _).symm) (by rw [h6]; exact (Int32.add_zero _).symm)
  · intro x5 x6 x7 x8 M' v N hs i j hi hj hi24 hj24 hM h5 h6
    have hW : rW 19 M' V := rW_eq h fun j hj => hM _ (by omega) (nl j hj)
    have hcl : cLk M' l o L := cLk_c hc fun b q1 q2 => hM b (by omega) (by omega)
    have nx : (x7 + kI 1).toInt = ((i + 1 : Nat) : Int) := n_add1 hi (by omega)
    rcases hs with ⟨g, hs⟩ | ⟨g, hs⟩
    · have t := (f37_th hV hW hi hi24).1.mp g
      have z : ∀ j, seC V p4 i j = false := fun j => seC_n1 (Or.inr (Or.inl t))
      refine hs (i + 1) nx (by omega) hM ?_ ?_
      · rw [h5, oS_s, tR_0 z, tR_0 z]
      · rw [h6, oS_s, tR_0 z, tR_0 z]
    · have ti := (f37_th hV hW hi hi24).2.mp g
      rcases hs with ⟨g2, hs⟩ | ⟨g2, hs⟩
      · rw [i_le, hj, kI_toInt (by decide) (by decide)] at g2
        have e : j = 24 := by omega
        rw [e] at h5 h6
        exact hs (i + 1) nx (by omega) hM h5 h6
      · rw [i_le, hj, kI_toInt (by decide) (by decide)] at g2
        have j24 : j < 24 := by omega
        have ny : (x8 + kI 1).toInt = ((j + 1 : Nat) : Int) := n_add1 hj (by omega)
        rcases hs with ⟨g3, hs⟩ | ⟨g3, hs⟩
        · have e : i = j := by rw [g3, hi] at hj; omega
          exact hs i (j + 1) hi ny hi24 (by omega) hM (sm_no (seC_n1 (Or.inl e)) h5) (sm_no (seC_n1 (Or.inl e)) h6)
        · have ne : ¬ i = j := fun e => g3 (Int32.toInt_inj.mp (by rw [hi, hj, e]))
          rcases hs with ⟨g4, hs⟩ | ⟨g4, hs⟩
          · have t := (f37_th hV hW hj j24).1.mp g4
            exact hs i (j + 1) hi ny hi24 (by omega) hM (sm_no (seC_n1 (Or.inr (Or.inr (Or.inl t)))) h5) (sm_no (seC_n1 (Or.inr (Or.inr (Or.inl t)))) h6)
          · have tj := (f37_th hV hW hj j24).2.mp g4
            rw [f225_V hV hW hi hi24, f225_V hV hW hj j24] at hs
            have skip : ¬ (if V 189 i = V 189 j then kI 1 else kI 0) = p4 → (fun (x5 x6 x7 x8 : Int32) (M' : pMem) (v : Int32) (N : pMem) => ∀ i j : Nat, x7.toInt = i → x8.toInt = j → i < 24 → j ≤ 24 → (∀ a, (a < 132 ∨ 137 < a) → a ≠ l + 6 → M' a = M a) → x5 = oS (seC V p4) (seG o L V p3) 24 i + sm (tR (seC V p4) (seG o L V p3) i) j → x6 = oS (seC V p4) u1 24 i + sm (tR (seC V p4) u1 i) j → v = seA o L V p3 p4 ∧ ∀ a, (a < 132 ∨ 137 < a) → a ≠ l + 6 → N a = M a) x5 x6 x7 (x8 + kI 1) M' v N → v = seA o L V p3 p4 ∧ ∀ a, (a < 132 ∨ 137 < a) → a ≠ l + 6 → N a = M a := fun q hs =>
              hs i (j + 1) hi ny hi24 (by omega) hM (sm_no (seC_n1 (Or.inr (Or.inr (Or.inr q)))) h5) (sm_no (seC_n1 (Or.inr (Or.inr (Or.inr q)))) h6)
            have take : ∀ {v1 : Int32} {M1 : pMem}, (if V 189 i = V 189 j then kI 1 else kI 0) = p4 → D_191 19 l x7 x8 p3 M' v1 M1 → (fun (x5 x6 x7 x8 : Int32) (M' : pMem) (v : Int32) (N : pMem) => ∀ i j : Nat, x7.toInt = i → x8.toInt = j → i < 24 → j ≤ 24 → (∀ a, (a < 132 ∨ 137 < a) → a ≠ l + 6 → M' a = M a) → x5 = oS (seC V p4) (seG o L V p3) 24 i + sm (tR (seC V p4) (seG o L V p3) i) j → x6 = oS (seC V p4) u1 24 i + sm (tR (seC V p4) u1 i) j → v = seA o L V p3 p4 ∧ ∀ a, (a < 132 ∨ 137 < a) → a ≠ l + 6 → N a = M a) (x5 + v1) (x6 + kI 1) x7 (x8 + kI 1) M1 v N → v = seA o L V p3 p4 ∧ ∀ a, (a < 132 ∨ 137 < a) → a ≠ l + 6 → N a = M a := fun q h191 hs => by
              obtain ⟨e1, e2⟩ := D_191_v hl hV hW hcl hi hj hi24 j24 h191
              have y := seC_y ne ti tj q
              exact hs i (j + 1) hi ny hi24 (by omega) (fun a q1 q2 => by rw [e2 a (by omega) q2]; exact hM a q1 q2) (sm_yes y h5 e1) (sm_yes y h6 rfl)
            rcases hs with ⟨g5, hs⟩ | ⟨g5, hs⟩
            · rcases hs with ⟨g6, hs⟩ | ⟨g6, v1, M1, h191, hs⟩
              · exact skip (by rw [if_neg g5]; exact g6) hs
              · exact take (by rw [if_neg g5]; exact Classical.not_not.mp g6) h191 hs
            · have g5 := Classical.not_not.mp g5
              rcases hs with ⟨g6, hs⟩ | ⟨g6, v1, M1, h191, hs⟩
              · exact skip (by rw [if_pos g5]; exact g6) hs
              · exact take (by rw [if_pos g5]; exact Classical.not_not.mp g6) h191 hs
theorem D_127_v {k : Nat} {o : List Cd} {L : List Ln} {M V : pMem} (hs0 : sc V M) (hV : rV V) (hc : rLk V k o L) {n : Nat} (hn : rNb V n) {p1 p2 v : Int32} {N : pMem} (hD : D_127 p1 p2 M v N) : v = seA o L V p1 p2 ∧ sc V N := by
  obtain ⟨n24, hn2, hn3⟩ := id hn
  have far : ∀ i j, i < 24 → j < 24 → (n ≤ i ∨ n ≤ j) → seC V p2 i j = false := fun i j hi hj q => by
    rcases q with q | q
    · exact seC_n1 (Or.inr (Or.inl (thV_0 hn q hi)))
    · exact seC_n1 (Or.inr (Or.inr (Or.inl (thV_0 hn q hj))))
  refine hD (fun x5 x6 x7 M' v N => ∀ i : Nat, x7.toInt = i → i ≤ n → sc V M' → x5 = oS (seC V p2) (seG o L V p1) n i → x6 = oS (seC V p2) u1 n i → v = seA o L V p1 p2 ∧ sc V N,
    fun x5 x6 x7 x8 M' v N => ∀ i j : Nat, x7.toInt = i → x8.toInt = j → i < n → j ≤ n → sc V M' → x5 = oS (seC V p2) (seG o L V p1) n i + sm (tR (seC V p2) (seG o L V p1) i) j → x6 = oS (seC V p2) u1 n i + sm (tR (seC V p2) u1 i) j → v = seA o L V p1 p2 ∧ sc V N) ⟨?_, ?_⟩ 0 rfl (Nat.zero_le _) hs0 rfl rfl
  · intro x5 x6 x7 M' v N hs i hi hin hM h5 h6
    have e2 : M' 188 2 = V 188 2 := (sc_rows hM).2.2.2.2.2 2 (by decide) (by decide)
    rcases hs with ⟨g, hv, hN⟩ | ⟨g, hs⟩
    · rw [i_le, e2, hn2, hi] at g
      have e : i = n := by omega
      rw [e, oS_n] at h5 h6
      refine ⟨?_, by rw [hN]; exact hM⟩
      unfold seA
      rw [hv, h5, h6, s2_ext n24 far, s2_ext n24 far]
    · rw [i_le, e2, hn2, hi] at g
      exact hs i 0 hi rfl (by omega) (by omega) hM (by rw [h5]; exact (Int32.add_zero _).symm) (by rw [h6]; exact (Int32.add_zero _).symm)
  · intro x5 x6 x7 x8 M' v N hs i j hi hj hin hjn hM h5 h6
    obtain ⟨s189, _, s191, _, _, s8⟩ := sc_rows hM
    have e2 : M' 188 2 = V 188 2 := s8 2 (by decide) (by decide)
    have nx : (x7 + kI 1).toInt = ((i + 1 : Nat) : Int) := n_add1 hi (by omega)
    rcases hs with ⟨g2, hs⟩ | ⟨g2, hs⟩
    · rw [i_le, e2, hn2, hj] at g2
      have e : j = n := by omega
      rw [e] at h5 h6
      exact hs (i + 1) nx (by omega) hM h5 h6
    · rw [i_le, e2, hn2, hj] at g2
      have j24 : j < n := by omega
      have ny : (x8 + kI 1).toInt = ((j + 1 : Nat) : Int) := n_add1 hj (by omega)
      rw [ix_of hi, ix_of hj, s191, s189] at hs
      rcases hs with ⟨g3, hs⟩ | ⟨g3, _, hs⟩
      · have e : i = j := by rw [g3, hj] at hi; omega
        exact hs i (j + 1) hi ny hin (by omega) hM (sm_no (seC_n1 (Or.inl e)) h5) (sm_no (seC_n1 (Or.inl e)) h6)
      · have ne : ¬ i = j := fun e => g3 (Int32.toInt_inj.mp (by rw [hi, hj, e]))
        have th0 : ∀ {q : Nat}, V 191 q = 0 → thV V q = false := fun e => by unfold thV; rw [decide_eq_true e]; rfl
        have th1 : ∀ {q : Nat}, ¬ V 191 q = 0 → thV V q = true := fun e => by unfold thV; rw [decide_eq_false e]; rfl
        rcases hs with ⟨g4, hs⟩ | ⟨g4, _, hs⟩
        · exact hs i (j + 1) hi ny hin (by omega) hM (sm_no (seC_n1 (Or.inr (Or.inl (th0 g4)))) h5) (sm_no (seC_n1 (Or.inr (Or.inl (th0 g4)))) h6)
        · rcases hs with ⟨g5, hs⟩ | ⟨g5, _, _, hs⟩
          · exact hs i (j + 1) hi ny hin (by omega) hM (sm_no (seC_n1 (Or.inr (Or.inr (Or.inl (th0 g5))))) h5) (sm_no (seC_n1 (Or.inr (Or.inr (Or.inl (th0 g5))))) h6)
          · have skip : ¬ (if V 189 i = V 189 j then kI 1 else kI 0) = p2 → (fun (x5 x6 x7 x8 : Int32) (M' : pMem) (v : Int32) (N : pMem) => ∀ i j : Nat, x7.toInt = i → x8.toInt = j → i < n → j ≤ n → sc V M' → x5 = oS (seC V p2) (seG o L V p1) n i + sm (tR (seC V p2) (seG o L V p1) i) j → x6 = oS (seC V p2) u1 n i + sm (tR (seC V p2) u1 i) j → v = seA o L V p1 p2 ∧ sc V N) x5 x6 x7 (x8 + kI 1) M' v N → v = seA o L V p1 p2 ∧ sc V N := fun q hs =>
              hs i (j + 1) hi ny hin (by omega) hM (sm_no (seC_n1 (Or.inr (Or.inr (Or.inr q)))) h5) (sm_no (seC_n1 (Or.inr (Or.inr (Or.inr q)))) h6)
            have take : ∀ {v1 : Int32} {M1 : pMem}, (if V 189 i = V 189 j then kI 1 else kI 0) = p2 → D_124 x7 x8 p1 M' v1 M1 → (fun (x5 x6 x7 x8 : Int32) (M' : pMem) (v : Int32) (N : pMem) => ∀ i j : Nat, x7.toInt = i → x8.toInt = j → i < n → j ≤ n → sc V M' → x5 = oS (seC V p2) (seG o L V p1) n i + sm (tR (seC V p2) (seG o L V p1) i) j → x6 = oS (seC V p2) u1 n i + sm (tR (seC V p2) u1 i) j → v = seA o L V p1 p2 ∧ sc V N) (x5 + v1) (x6 + kI 1) x7 (x8 + kI 1) M1 v N → v = seA o L V p1 p2 ∧ sc V N := fun q h124 hs => by
              have e1 := D_124_v (rLk_sc hM hc) hi hj h124
              rw [FcV_sc hM] at e1
              have f := F_124 h124
              have y := seC_y ne (th1 g4) (th1 g5) q
              exact hs i (j + 1) hi ny hin (by omega) (sc_t hM fun a j h1 h2 => f a j h1 h2 (by simp only [l_124, pOut_nil])) (sm_yes y h5 e1) (sm_yes y h6 rfl)
            rcases hs with ⟨g6, hs⟩ | ⟨g6, hs⟩
            · rcases hs with ⟨g7, v1, M1, h124, hs⟩ | ⟨g7, hs⟩
              · exact take (by rw [if_neg g6]; exact g7) h124 hs
              · exact skip (by rw [if_neg g6]; exact g7) hs
            · have g6 := Classical.not_not.mp g6
              rcases hs with ⟨g7, v1, M1, h124, hs⟩ | ⟨g7, hs⟩
              · exact take (by rw [if_pos g6]; exact g7) h124 hs
              · exact skip (by rw [if_pos g6]; exact g7) hs
theorem op_seen_v {p1 p2 v u : Int32} {M M1 M2 : pMem} (h : rF M) (h1 : D_16 p1 p2 M v M1) (h2 : D_128 p1 p2 M1 u M2) : v = u := by
  obtain ⟨hA, hT, _⟩ := h
  obtain ⟨k, o, L, hk, hk4, cl, rl⟩ := force_T hT
  obtain ⟨⟨hV, _⟩, ⟨hW, _⟩, _⟩ := hT
  have hW : rW 19 M M := hW
  have f1 := F_16 h1
  obtain ⟨Ma, ea, h2⟩ := h2
  have m8 : ∀ j, j ≠ 0 → j ≠ 51 → Ma 188 j = M 188 j := fun j q1 q2 => by
    rw [ea, aPut_at q1]
    refine f1 188 j (by decide) ?_ (by simp only [l_16, pOut_nil])
    unfold pScr
    rw [show Nat.beq j 0 = false from Bool.eq_false_iff.mpr fun q => q1 (Nat.eq_of_beq_eq_true q), show Nat.beq j 51 = false from Bool.eq_false_iff.mpr fun q => q2 (Nat.eq_of_beq_eq_true q)]
    rfl
  have mR : ∀ a, a < 230 → pScrA a = false → a ≠ 188 → Ma a = M a := fun a q1 q2 q3 => funext fun j => by
    rw [ea, aPut_cell q3]
    exact f1 a j q1 (pScr_of q2 q3 j) (by simp only [l_16, pOut_nil])
  have hVa : rV Ma := rV_c hV (m8 2 (by decide) (by decide)) (mR 189 (by decide) rfl (by decide)) (mR 191 (by decide) rfl (by decide)) (mR 195 (by decide) rfl (by decide)) (mR 196 (by decide) rfl (by decide))
  have rla : rLk Ma k o L := rLk_v rl (fun b q1 q2 => mR b (by omega) (by
    have e : b = 204 ∨ b = 205 ∨ b = 206 ∨ b = 207 ∨ b = 208 ∨ b = 209 ∨ b = 210 ∨ b = 211 := by omega
    rcases e with rfl | rfl | rfl | rfl | rfl | rfl | rfl | rfl <;> rfl) (by omega)) (m8 4 (by decide) (by decide))
  obtain ⟨n, hn⟩ := hVa.1
  have se : ∀ s, seA o L Ma p1 s = seA o L M p1 s := fun s => by
    have e1 : seC Ma s = seC M s := by
      funext i j
      unfold seC
      rw [thV_c (mR 191 (by decide) rfl (by decide)), mR 189 (by decide) rfl (by decide)]
    have e2 : seG o L Ma p1 = seG o L M p1 := by
      funext i j
      unfold seG
      rw [FcV_c (mR 189 (by decide) rfl (by decide)) (mR 190 (by decide) rfl (by decide)) (mR 194 (by decide) rfl (by decide)) (mR 195 (by decide) rfl (by decide)) fun j q1 q2 => m8 j (by omega) (by omega)]
    unfold seA
    rw [e1, e2]
  have ref : ∀ {X : pMem} {s y : Int32} {Y : pMem}, sc Ma X → D_127 p1 s X y Y → y = seA o L M p1 s ∧ sc Ma Y := fun hs hd => by
    obtain ⟨e1, e2⟩ := D_127_v hs hVa rla hn hd
    exact ⟨by rw [e1, se], e2⟩
  have own : ∀ {X X' : pMem} {s y : Int32} {Y : pMem} {l : Nat}, (∀ a, (a < 132 ∨ 137 < a) → a ≠ 36 + 11 * k → X a = M a) → D_217 X l X' → D_192 19 l p1 s X' y Y → y = seA o L M p1 s ∧ ∀ a, (a < 132 ∨ 137 < a) → a ≠ 36 + 11 * k → Y a = M a := fun {X X' s y Y l} hX h217 hd => by
    have hl := D_217_k h217
    obtain ⟨_, el, eX⟩ := h217
    rw [hX 18 (by decide) (by omega), ix_of hk] at el
    rw [eX] at hd
    have hWX : rW 19 X M := rW_eq hW fun j hj => hX _ (by omega) (by omega)
    have hcX : cLk X l o L := by
      rw [el]
      exact cLk_c cl fun b q1 q2 => hX b (by omega) (by omega)
    obtain ⟨e1, e2⟩ := D_192_v hl hV hWX hcX hd
    exact ⟨e1, fun a q1 q2 => by rw [e2 a q1 (by omega)]; exact hX a q1 q2⟩
  have id0 : ∀ a, (a < 132 ∨ 137 < a) → a ≠ 36 + 11 * k → M a = M a := fun _ _ _ => rfl
  by_cases c : f_36 p1 = 0
  · rw [(tIf_p c h1).1, (tIf_p (show f_42 p1 (kI 0) (kI 999) = 0 from c) h2).1]
  have h1 := tIf_n c h1
  have h2 := tIf_n (show ¬ f_42 p1 (kI 0) (kI 999) = 0 from c) h2
  by_cases d : 0 ≤ p2.toInt ∧ p2.toInt ≤ 2
  · have h1 := tIf_p (by rw [i_le, kI_toInt (by decide) (by decide)]; omega) (tIf_n (by rw [i_lt, i_0]; omega) h1)
    have h2 := tIf_p (f_42_iff.mpr (by rw [i_le, i_le, kI0, kI_toInt (by decide) (by decide)]; exact d)) h2
    by_cases c0 : p2 = kI 0
    · have h1 := tIf_p (show ¬ p2 = kI 1 by rw [c0]; decide) h1
      obtain ⟨l, X, h217, v2, Y, h192, h1⟩ := h1
      have h1 := tIf_n (nn c0) h1
      have h1 := tIf_p (show ¬ p2 = kI 1 by rw [c0]; decide) h1
      obtain ⟨v1, Z, h127, hu, _⟩ := tIf_n (nn c0) h2
      rw [h1.1, hu, (own id0 h217 h192).1, (ref sc_r h127).1]
      exact Int32.sub_zero _
    · have h2 := tIf_p (show ¬ p2 = 0 from c0) h2
      by_cases c1 : p2 = kI 1
      · have h1 := tIf_n (nn c1) h1
        have h1 := tIf_p (show ¬ p2 = 0 from c0) h1
        obtain ⟨l, X, h217, v2, Y, h192, h1⟩ := h1
        have h1 := tIf_n (nn c1) h1
        obtain ⟨v1, Z, h127, hu, _⟩ := tIf_n (nn c1) h2
        rw [h1.1, hu, (own id0 h217 h192).1, (ref sc_r h127).1]
      · have h1 := tIf_p c1 h1
        obtain ⟨l, X, h217, v2, Y, h192, h1⟩ := h1
        have h1 := tIf_p (show ¬ p2 = 0 from c0) h1
        obtain ⟨l', X', h217', v4, Y', h192', h1⟩ := h1
        have h1 := tIf_p c1 h1
        obtain ⟨v1, Z, h127, v3, Z', h127', hu, _⟩ := tIf_p c1 h2
        obtain ⟨a1, a2⟩ := own id0 h217 h192
        obtain ⟨b1, b2⟩ := ref sc_r h127
        rw [h1.1, hu, a1, (own a2 h217' h192').1, b1, (ref b2 h127').1]
  · have h2 := tIf_n (fun q => d (by have q := f_42_iff.mp q; rw [i_le, i_le, kI0, kI_toInt (by decide) (by decide)] at q; exact q)) h2
    rw [h2.1]
    rcases h1 with ⟨_, hv, _⟩ | ⟨g, h1⟩
    · exact hv
    · rw [i_lt, i_0] at g
      exact (tIf_n (by rw [i_le, kI_toInt (by decide) (by decide)]; omega) h1).1
/-! a day in thought: the class's wood 143, the reference in its place -/
def rTh (l k : Nat) (o : List Cd) (L : List Ln) (M V : pMem) : Prop := rV V ∧ rW 143 M V ∧ cLk M l o L ∧ rLk V k o L ∧ 0 ≤ (V 188 3).toInt ∧ (V 188 3).toInt ≤ 60
theorem day_th {l k : Nat} (hl : pK 2 l = true) {o : List Cd} {L : List Ln} {M V Vr N M1 : pMem} (h : rTh l k o L M V) (hd : (V 188 3).toInt < 60) {p1 p2 p3 : Int32} (hp : p3 = kI (-1) ∨ bo p3) {v : Int32} {u : Unit} (hD : D_138 143 l p1 p2 p3 M v M1) (hs : sc V Vr) (h101 : D_101 p1 p2 p3 Vr u N) :
    rTh l k o L M1 N ∧ v = f_102 N ∧ sx (dyV (stV o L p1 p2 p3 V)) N ∧ frC 143 l M M1 := by
  obtain ⟨hV, hW, cl, rl, d0, d60⟩ := h
  have hw : pK 10 143 = true := by decide +kernel
  obtain ⟨a1, a2, a3, a4, a5⟩ := D_138_v hw hl hV hW ⟨d0, by omega⟩ cl hp hD
  obtain ⟨x1, _⟩ := D_101_v hs hV ⟨d0, by omega⟩ rl h101
  have ag := agV_sx x1
  have f := F_101 h101
  have r3 : N 188 3 = V 188 3 + kI 1 := by
    rw [sx_8 x1 (by decide) (by decide)]
    unfold dyV
    rw [aPut_same, st8 (by decide)]
  have t3 : (V 188 3 + kI 1).toInt = (V 188 3).toInt + 1 := i_add1 (by omega)
  have rlN : rLk N k o L := rLk_v rl (fun b q1 q2 => by
    rw [sx_row x1 (by omega) (by
      have e : b = 204 ∨ b = 205 ∨ b = 206 ∨ b = 207 ∨ b = 208 ∨ b = 209 ∨ b = 210 ∨ b = 211 := by omega
      rcases e with rfl | rfl | rfl | rfl | rfl | rfl | rfl | rfl <;> rfl) (by omega) (by omega) (by omega), dyR (by omega), stR (by omega) (by omega) (by omega) (by omega)]) (by rw [sx_8 x1 (by decide) (by decide), dy8 (by decide), st8 (by decide)])
  refine ⟨⟨rV_cg a1 ag, rW_cg a2 ag, frC_law hw hl a5 cl, rlN, by rw [r3, t3]; omega, by rw [r3, t3]; omega⟩, ?_, x1, a5⟩
  unfold f_102
  rw [a3, sx_8 x1 (by decide) (by decide), dy8 (by decide)]
  exact st54
/-! what a day counts: fights, their heat -/
theorem fg_1 {o : List Cd} {L : List Ln} {l : Nat} {V : pMem} : ∃ (b : Bool) (y : Int32), (b = false → y = 0) ∧ (∀ q, fgV o L l V 197 q = V 197 q + (if q = l ∧ b = true then kI 1 else 0)) ∧ (∀ q, fgV o L l V 198 q = V 198 q + (if q = l then y else 0)) ∧ fgV o L l V 188 55 = V 188 55 + y ∧ fgV o L l V 188 54 = (if b = true then V 188 54 ||| kI 1 <<< (kI (l : Nat) &&& 31) else V 188 54) := by
  unfold fgV
  by_cases c : 0 < tl (FlV V (kI (l : Nat))) o (kI 15) L
  · refine ⟨true, h999 (tl (FlV V (kI (l : Nat))) o (kI 15) L), fun e => (by cases e), fun q => ?_, fun q => ?_, ?_, ?_⟩
    · rw [if_pos c, aPut_cell (by decide), aPut_cell (by decide), aPut_row, aPut_cell (by decide)]
      by_cases e : q = l
      · rw [if_pos e, if_pos ⟨e, rfl⟩, e]
      · rw [if_neg e, if_neg (fun r => e r.1)]
        exact (Int32.add_zero _).symm
    · rw [if_pos c, aPut_cell (by decide), aPut_row, aPut_cell (by decide), aPut_cell (by decide)]
      by_cases e : q = l
      · rw [if_pos e, if_pos e, e]
      · rw [if_neg e, if_neg e]
        exact (Int32.add_zero _).symm
    · rw [if_pos c, aPut_same]
    · rw [if_pos c, if_pos rfl, aPut_at (by decide), aPut_cell (by decide), aPut_cell (by decide), aPut_same]
  · refine ⟨false, 0, fun _ => rfl, fun q => ?_, fun q => ?_, ?_, ?_⟩
    · rw [if_neg c, if_neg (fun r => (by cases r.2))]
      exact (Int32.add_zero _).symm
    · rw [if_neg c]
      by_cases e : q = l
      · rw [if_pos e]; exact (Int32.add_zero _).symm
      · rw [if_neg e]; exact (Int32.add_zero _).symm
    · rw [if_neg c]; exact (Int32.add_zero _).symm
    · rw [if_neg c]; rfl
/-! a day's counts: fights, heat, who goes, names -/
theorem i_ac4 {a b c d : Int32} : (a + b) + (c + d) = (a + c) + (b + d) := by
  rw [Int32.add_assoc a b (c + d), Int32.add_assoc a c (b + d), ← Int32.add_assoc b c d, Int32.add_comm b c, Int32.add_assoc c b d]
theorem i_asc {a b : Int32} : a + b - a = b := Int32.sub_eq_iff_eq_add.mpr (Int32.add_comm a b)
theorem i_arc {a b c : Int32} : a + b + c = a + c + b := by rw [Int32.add_assoc, Int32.add_comm b c, ← Int32.add_assoc]
/-- how many of the camps have a name -/
def nmV (V : pMem) : Int32 := (if V 196 0 ≤ 0 then kI 0 else kI 1) + (if V 196 1 ≤ 0 then kI 0 else kI 1)
theorem nmV_c {V U : pMem} (h : U 196 = V 196) : nmV U = nmV V := by
  unfold nmV
  rw [h]
theorem cN_split {p g : Nat → Bool} (h : ∀ i, g i = true → p i = true) : ∀ {n : Nat}, cN (fun i => p i && !g i) n + cN g n = cN p n := by
  intro n
  induction n with
  | zero => rfl
  | succ n ih =>
    show cN (fun i => p i && !g i) n + (if (p n && !g n) = true then 1 else 0) + (cN g n + (if g n = true then 1 else 0)) = cN p n + (if p n = true then 1 else 0)
    have e : (if (p n && !g n) = true then 1 else 0) + (if g n = true then 1 else 0) = (if p n = true then 1 else 0) := by
      cases hg : g n with
      | false => cases p n <;> rfl
      | true => rw [h n hg]; rfl
    omega
theorem na_1 {o : List Cd} {L : List Ln} {l : Nat} {V : pMem} (hl : l = 0 ∨ l = 1) (h0 : 0 ≤ (V 188 3).toInt ∧ (V 188 3).toInt ≤ 100000) : ∃ d : Int32, nmV (naV o L l V) = nmV V + d ∧ naV o L l V 188 56 = V 188 56 + d := by
  obtain ⟨_, _, a3, a4⟩ := naV_v (o := o) (L := L) (l := l) (V := V)
  have y0 : ¬ V 188 3 + kI 1 ≤ 0 := by rw [i_le, i_add1 (by omega), i_0]; omega
  by_cases c : V 196 l = 0 ∧ 0 < tl (FlV V (kI (l : Nat))) o (kI 17) L
  · rw [if_pos c] at a4
    refine ⟨kI 1, ?_, a4⟩
    rcases hl with rfl | rfl
    · have e0 : naV o L 0 V 196 0 = V 188 3 + kI 1 := by rw [a3 0, if_pos ⟨c, rfl⟩]
      have e1 : naV o L 0 V 196 1 = V 196 1 := by rw [a3 1, if_neg (fun q => absurd q.2 (by decide))]
      have z : V 196 0 ≤ 0 := by rw [c.1]; decide
      unfold nmV
      rw [e0, e1, if_neg y0, if_pos z]
      generalize (if V 196 1 ≤ 0 then kI 0 else kI 1) = Z
      rw [kIz, Int32.zero_add, Int32.add_comm]
    · have e0 : naV o L 1 V 196 1 = V 188 3 + kI 1 := by rw [a3 1, if_pos ⟨c, rfl⟩]
      have e1 : naV o L 1 V 196 0 = V 196 0 := by rw [a3 0, if_neg (fun q => absurd q.2 (by decide))]
      have z : V 196 1 ≤ 0 := by rw [c.1]; decide
      unfold nmV
      rw [e0, e1, if_neg y0, if_pos z]
      generalize (if V 196 0 ≤ 0 then kI 0 else kI 1) = Z
      rw [kIz, Int32.add_zero]
  · refine ⟨0, ?_, by rw [a4, if_neg c]; exact (Int32.add_zero _).symm⟩
    have e : ∀ i, naV o L l V 196 i = V 196 i := fun i => by rw [a3 i, if_neg (fun q => c q.1)]
    unfold nmV
    rw [e 0, e 1]
    exact (Int32.add_zero _).symm
/-- what one day counts -/
def cnV (V U : pMem) : Prop := U 197 0 + U 197 1 = V 197 0 + V 197 1 + f_102 U ∧ U 198 0 + U 198 1 = V 198 0 + V 198 1 + U 188 55 ∧ kI (cN (thV U) 24 : Nat) + U 188 57 = kI (cN (thV V) 24 : Nat) ∧ nmV U = nmV V + U 188 56 ∧ (f_102 U ≤ 0 ↔ U 188 54 = 0)
theorem bo_ite {b : Bool} {x : Int32} : ∀ q l : Nat, (if q = l ∧ b = true then x else 0) = if q = l then (if b = true then x else 0) else 0 := fun q l => by
  by_cases e : q = l
  · by_cases c : b = true
    · rw [if_pos ⟨e, c⟩, if_pos e, if_pos c]
    · rw [if_neg (fun q => c q.2), if_pos e, if_neg c]
  · rw [if_neg (fun q => e q.1), if_neg e]
theorem f4_cn {o : List Cd} {L : List Ln} {P W0 W1 W2 U : pMem} (e0 : W0 = fg0 P) (e1 : W1 = fgV o L 0 W0) (e2 : W2 = fgV o L 1 W1) (eU : U = naV o L 1 (naV o L 0 (na0 (hoV o L W2)))) (h0 : 0 ≤ (P 188 3).toInt ∧ (P 188 3).toInt ≤ 100000) : cnV P U := by
  have f0 : ∀ b, b ≠ 188 → W0 b = P b := fun b hb => by rw [e0]; unfold fg0; rw [apR hb, apR hb]
  have f8 : W0 188 3 = P 188 3 := by rw [e0]; unfold fg0; rw [aPut_at (by decide), aPut_at (by decide)]
  have g54 : W0 188 54 = kI 0 := by rw [e0]; unfold fg0; rw [aPut_at (by decide), aPut_same]
  have g55 : W0 188 55 = kI 0 := by rw [e0]; unfold fg0; rw [aPut_same]
  obtain ⟨b0, y0, _, r0, s0, t0, q0⟩ := fg_1 (o := o) (L := L) (l := 0) (V := W0)
  obtain ⟨v0, v0', _⟩ := fgV_v (o := o) (L := L) (l := 0) (V := W0)
  rw [← e1] at r0 s0 t0 q0 v0 v0'
  obtain ⟨b1, y1, _, r1, s1, t1, q1⟩ := fg_1 (o := o) (L := L) (l := 1) (V := W1)
  obtain ⟨v1, v1', _⟩ := fgV_v (o := o) (L := L) (l := 1) (V := W1)
  rw [← e2] at r1 s1 t1 q1 v1 v1'
  obtain ⟨h1, h2, h3, h4⟩ := hoV_v (o := o) (L := L) (V := W2)
  generalize hH : hoV o L W2 = H at h1 h2 h3 h4 eU
  have n0R : ∀ b, b ≠ 188 → na0 H b = H b := fun b hb => by unfold na0; rw [apR hb]
  have n08 : ∀ j, j ≠ 56 → na0 H 188 j = H 188 j := fun j hj => by unfold na0; rw [aPut_at hj]
  have n056 : na0 H 188 56 = kI 0 := by unfold na0; rw [aPut_same]
  obtain ⟨a1, a2, _, _⟩ := naV_v (o := o) (L := L) (l := 0) (V := na0 H)
  obtain ⟨c1, c2, _, _⟩ := naV_v (o := o) (L := L) (l := 1) (V := naV o L 0 (na0 H))
  rw [← eU] at c1 c2
  have w2R : ∀ b, b ≠ 188 → b ≠ 197 → b ≠ 198 → W2 b = P b := fun b x1 x2 x3 => by rw [v1 b x1 x2 x3, v0 b x1 x2 x3, f0 b x1]
  have uR : ∀ b, b ≠ 188 → b ≠ 196 → b ≠ 191 → U b = W2 b := fun b x1 x2 x3 => by rw [c1 b x1 x2, a1 b x1 x2, n0R b x1, h1 b x1 x3]
  have u8 : ∀ j, j ≠ 56 → j ≠ 57 → U 188 j = W2 188 j := fun j x1 x2 => by rw [c2 j x1, a2 j x1, n08 j x1, h2 j x2]
  have w3 : W2 188 3 = P 188 3 := by rw [v1' 3 (by decide) (by decide), v0' 3 (by decide) (by decide), f8]
  have x0 : W2 197 0 = P 197 0 + (if b0 = true then kI 1 else kI 0) := by
    rw [r1 0, r0 0, f0 197 (by decide), bo_ite, bo_ite, if_neg (show ¬ (0 : Nat) = 1 by decide), if_pos (show (0 : Nat) = 0 from rfl), Int32.add_zero]
    rfl
  have x1 : W2 197 1 = P 197 1 + (if b1 = true then kI 1 else kI 0) := by
    rw [r1 1, r0 1, f0 197 (by decide), bo_ite, bo_ite, if_neg (show ¬ (1 : Nat) = 0 by decide), if_pos (show (1 : Nat) = 1 from rfl), Int32.add_zero]
    rfl
  have x2 : W2 198 0 = P 198 0 + y0 := by
    rw [s1 0, s0 0, f0 198 (by decide), if_neg (show ¬ (0 : Nat) = 1 by decide), if_pos (show (0 : Nat) = 0 from rfl), Int32.add_zero]
  have x3 : W2 198 1 = P 198 1 + y1 := by
    rw [s1 1, s0 1, f0 198 (by decide), if_neg (show ¬ (1 : Nat) = 0 by decide), if_pos (show (1 : Nat) = 1 from rfl), Int32.add_zero]
  have x54 : W2 188 54 = (if b1 = true then kI 2 else kI 0) + (if b0 = true then kI 1 else kI 0) := by
    rw [q1, q0, g54]
    cases b0 <;> cases b1 <;> decide +kernel
  have x55 : W2 188 55 = y0 + y1 := by rw [t1, t0, g55, kIz, Int32.zero_add]
  have xf : f_102 U = (if b0 = true then kI 1 else kI 0) + (if b1 = true then kI 1 else kI 0) := by
    unfold f_102
    rw [u8 54 (by decide) (by decide), x54]
    cases b0 <;> cases b1 <;> decide +kernel
  have w191 : W2 191 = P 191 := w2R 191 (by decide) (by decide) (by decide)
  have u191 : ∀ i, U 191 i = if i < 24 ∧ goV o L W2 i = true then kI 0 else W2 191 i := fun i => by rw [c1 191 (by decide) (by decide), a1 191 (by decide) (by decide), n0R 191 (by decide), h4 i]
  refine ⟨?_, ?_, ?_, ?_, ?_⟩
  · rw [uR 197 (by decide) (by decide) (by decide), x0, x1, xf]
    exact i_ac4
  · rw [uR 198 (by decide) (by decide) (by decide), x2, x3, u8 55 (by decide) (by decide), x55]
    exact i_ac4
  · have eg : ∀ i, goV o L W2 i = true → thV P i = true := fun i hi => by
      unfold goV at hi
      rw [thV_c w191] at hi
      exact (zAnd hi).1
    have et : cN (thV U) 24 = cN (fun i => thV P i && !goV o L W2 i) 24 := cN_cg fun i hi => by
      show (!decide (U 191 i = 0)) = _
      rw [u191 i]
      by_cases c : goV o L W2 i = true
      · rw [if_pos ⟨hi, c⟩, c, Bool.not_true, Bool.and_false]
        rfl
      · have cf : goV o L W2 i = false := Bool.eq_false_iff.mpr c
        rw [if_neg (fun q => c q.2), cf, Bool.not_false, Bool.and_true, w191]
        rfl
    rw [c2 57 (by decide), a2 57 (by decide), n08 57 (by decide), h3, et, ← kI_n1, cN_split eg]
  · obtain ⟨d0, m0, n0⟩ := na_1 (o := o) (L := L) (l := 0) (V := na0 H) (Or.inl rfl) (by rw [n08 3 (by decide), h2 3 (by decide), w3]; exact h0)
    obtain ⟨d1, m1, n1⟩ := na_1 (o := o) (L := L) (l := 1) (V := naV o L 0 (na0 H)) (Or.inr rfl) (by rw [a2 3 (by decide), n08 3 (by decide), h2 3 (by decide), w3]; exact h0)
    rw [← eU] at m1 n1
    have e196 : na0 H 196 = P 196 := by rw [n0R 196 (by decide), h1 196 (by decide) (by decide), w2R 196 (by decide) (by decide) (by decide)]
    rw [m1, m0, n1, n0, n056, nmV_c e196, kIz, Int32.zero_add, Int32.add_assoc]
  · rw [xf, u8 54 (by decide) (by decide), x54]
    cases b0 <;> cases b1 <;> decide +kernel
theorem cnV_c {V V' U U' : pMem} (h : cnV V U) (e : ∀ b, b = 191 ∨ b = 196 ∨ b = 197 ∨ b = 198 → V' b = V b ∧ U' b = U b) (e8 : ∀ j, j = 54 ∨ j = 55 ∨ j = 56 ∨ j = 57 → U' 188 j = U 188 j) : cnV V' U' := by
  obtain ⟨h1, h2, h3, h4, h5⟩ := h
  have ef : f_102 U' = f_102 U := by unfold f_102; rw [e8 54 (by omega)]
  refine ⟨?_, ?_, ?_, ?_, ?_⟩
  · rw [(e 197 (by omega)).1, (e 197 (by omega)).2, ef]; exact h1
  · rw [(e 198 (by omega)).1, (e 198 (by omega)).2, e8 55 (by omega)]; exact h2
  · rw [thV_c (e 191 (by omega)).1, thV_c (e 191 (by omega)).2, e8 57 (by omega)]; exact h3
  · rw [nmV_c (e 196 (by omega)).1, nmV_c (e 196 (by omega)).2, e8 56 (by omega)]; exact h4
  · rw [ef, e8 54 (by omega)]; exact h5
theorem day_cn {o : List Cd} {L : List Ln} {k p wr : Int32} {V N : pMem} (hd : 0 ≤ (V 188 3).toInt ∧ (V 188 3).toInt ≤ 100000) (x : sx (dyV (stV o L k p wr V)) N) : cnV V N := by
  generalize hP : (likV o L (if k = kI 1 then plV (bgV k p wr V) else bgV k p wr V)) = P
  have pR : ∀ b, b ≠ 188 → b ≠ 194 → b ≠ 199 → b ≠ 200 → P b = V b := fun b h1 h2 h3 h4 => by
    rw [← hP, likV_c h2]
    by_cases c : k = kI 1
    · rw [if_pos c, plR h1 h3, bgR h1 h4]
    · rw [if_neg c, bgR h1 h4]
  have p3 : P 188 3 = V 188 3 := by
    rw [← hP, likV_c (by decide)]
    by_cases c : k = kI 1
    · rw [if_pos c, pl8 (by decide) (by decide), bg8 (by omega)]
    · rw [if_neg c, bg8 (by omega)]
  have eU : stV o L k p wr V = naV o L 1 (naV o L 0 (na0 (hoV o L (fgV o L 1 (fgV o L 0 (fg0 P)))))) := by
    rw [← hP]
    rfl
  have q := f4_cn (o := o) (L := L) (P := P) rfl rfl rfl eU (by rw [p3]; exact hd)
  refine cnV_c q (fun b hb => ⟨(pR b (by omega) (by omega) (by omega) (by omega)).symm, ?_⟩) fun j hj => ?_
  · rw [sx_row x (by omega) (by rcases hb with rfl | rfl | rfl | rfl <;> rfl) (by omega) (by omega) (by omega), dyR (by omega)]
  · rw [sx_8 x (by omega) (by omega), dy8 (by omega)]
/-! a day in thought, whatever the day -/
def rTg (l k : Nat) (o : List Cd) (L : List Ln) (M V : pMem) : Prop := rV V ∧ rW 143 M V ∧ cLk M l o L ∧ rLk V k o L
theorem day_tg {l k : Nat} (hl : pK 2 l = true) {o : List Cd} {L : List Ln} {M V N M1 : pMem} (h : rTg l k o L M V) (hd : 0 ≤ (V 188 3).toInt ∧ (V 188 3).toInt ≤ 1000) {p1 p2 p3 : Int32} {v : Int32} {u : Unit} (hD : D_138 143 l p1 p2 p3 M v M1) (h101 : D_101 p1 p2 p3 V u N) :
    rTg l k o L M1 N ∧ v = f_102 N ∧ N 188 3 = V 188 3 + kI 1 ∧ frC 143 l M M1 ∧ cnV V N := by
  obtain ⟨hV, hW, cl, rl⟩ := h
  have hw : pK 10 143 = true := by decide +kernel
  have hd' : 0 ≤ (V 188 3).toInt ∧ (V 188 3).toInt ≤ 100000 := ⟨hd.1, by omega⟩
  obtain ⟨a1, a2, a3, a4, a5⟩ := D_138_v hw hl hV hW hd' cl (D_101_bo h101) hD
  obtain ⟨x1, _⟩ := D_101_v sc_r hV hd' rl h101
  have ag := agV_sx x1
  have r3 : N 188 3 = V 188 3 + kI 1 := by
    rw [sx_8 x1 (by decide) (by decide)]
    unfold dyV
    rw [aPut_same, st8 (by decide)]
  have rlN : rLk N k o L := rLk_v rl (fun b q1 q2 => by
    rw [sx_row x1 (by omega) (by
      have e : b = 204 ∨ b = 205 ∨ b = 206 ∨ b = 207 ∨ b = 208 ∨ b = 209 ∨ b = 210 ∨ b = 211 := by omega
      rcases e with rfl | rfl | rfl | rfl | rfl | rfl | rfl | rfl <;> rfl) (by omega) (by omega) (by omega), dyR (by omega), stR (by omega) (by omega) (by omega) (by omega)]) (by rw [sx_8 x1 (by decide) (by decide), dy8 (by decide), st8 (by decide)])
  refine ⟨⟨rV_cg a1 ag, rW_cg a2 ag, frC_law hw hl a5 cl, rlN⟩, ?_, r3, a5, day_cn hd' x1⟩
  unfold f_102
  rw [a3, sx_8 x1 (by decide) (by decide), dy8 (by decide)]
  exact st54
theorem cross_tg {M V : pMem} (hV : rV V) (hW : rW 143 M V) {v u : Int32} {N N2 : pMem} (hc : D_230 143 M v N) (hr : D_55 V u N2) : v = u ∧ N = M ∧ N2 = V := by
  obtain ⟨m0, p0⟩ := mem_w hV hW (p := kI 0) (Or.inl rfl)
  obtain ⟨m1, p1⟩ := mem_w hV hW (p := kI 1) (Or.inr rfl)
  obtain ⟨a1, a2⟩ := D_230_w p0 p1 hc
  obtain ⟨n, hn⟩ := hV.1
  obtain ⟨b1, b2⟩ := D_55_w hn (fun i hi => (hV.2.1 i hi).1) hr
  exact ⟨by rw [a1, b1, crS_cg m0 m1 fun i j hi hj => lkW_V hW hi hj], a2, b2⟩
theorem f238_V {w : Nat} {M V : pMem} (h : rW w M V) : f_238 w M = nmV V := by
  have e0 : M (w + 4) 6 = V 196 0 := (h.2.2.2.2.2 0 (by decide)).1
  have e1 : M (w + 4) 7 = V 196 1 := (h.2.2.2.2.2 1 (by decide)).1
  have q0 : f_237 w (kI 0) M = if V 196 0 ≤ 0 then kI 0 else kI 1 := by
    show (if M (w + 4) (ix (kI 6 + kI 0)) ≤ 0 then kI 0 else kI 1) = _
    rw [show ix (kI 6 + kI 0) = 6 by decide +kernel, e0]
  have q1 : f_237 w (kI 1) M = if V 196 1 ≤ 0 then kI 0 else kI 1 := by
    show (if M (w + 4) (ix (kI 6 + kI 1)) ≤ 0 then kI 0 else kI 1) = _
    rw [show ix (kI 6 + kI 1) = 7 by decide +kernel, e1]
  unfold f_238 nmV
  rw [q0, q1]
  by_cases c0 : V 196 0 ≤ 0
  · rw [if_pos c0, if_pos (show kI 0 = 0 from rfl)]
    by_cases c1 : V 196 1 ≤ 0
    · rw [if_pos c1, if_pos (show kI 0 = 0 from rfl)]
    · rw [if_neg c1, if_neg (show ¬ kI 1 = 0 by decide)]
  · rw [if_neg c0, if_neg (show ¬ kI 1 = 0 by decide)]
    by_cases c1 : V 196 1 ≤ 0
    · rw [if_pos c1, if_pos (show kI 0 = 0 from rfl)]
    · rw [if_neg c1, if_neg (show ¬ kI 1 = 0 by decide)]
theorem f236_V {w : Nat} {M V : pMem} (h : rW w M V) : f_236 w (kI 4) M = V 197 0 + V 197 1 ∧ f_236 w (kI 5) M = V 198 0 + V 198 1 := by
  have a0 : M (w + 4) 8 = V 197 0 := (h.2.2.2.2.2 0 (by decide)).2.1
  have a1 : M (w + 4) 9 = V 197 1 := (h.2.2.2.2.2 1 (by decide)).2.1
  have b0 : M (w + 4) 10 = V 198 0 := (h.2.2.2.2.2 0 (by decide)).2.2.1
  have b1 : M (w + 4) 11 = V 198 1 := (h.2.2.2.2.2 1 (by decide)).2.2.1
  constructor
  · show M (w + 4) (ix (kI 4 * kI 2)) + M (w + 4) (ix (kI 4 * kI 2 + kI 1)) = _
    rw [show ix (kI 4 * kI 2) = 8 by decide +kernel, show ix (kI 4 * kI 2 + kI 1) = 9 by decide +kernel, a0, a1]
  · show M (w + 4) (ix (kI 5 * kI 2)) + M (w + 4) (ix (kI 5 * kI 2 + kI 1)) = _
    rw [show ix (kI 5 * kI 2) = 10 by decide +kernel, show ix (kI 5 * kI 2 + kI 1) = 11 by decide +kernel, b0, b1]
theorem abs_44 {x : Int32} : pAbs x = f_44 x := by
  unfold pAbs f_44
  by_cases c : 0 ≤ x
  · rw [if_pos c, if_pos c]
  · rw [if_neg c, if_neg c, Int32.sub_eq_add_neg, Int32.zero_add]
/-! led in thought: the days of a plan in wood 143, against the reference's -/
def thC (a0 b0 c0 n0 d0 : Int32) (M V : pMem) : Prop := V 197 0 + V 197 1 = a0 + V 188 61 ∧ V 198 0 + V 198 1 = b0 + V 188 62 ∧ kI (cN (thV V) 24 : Nat) + V 188 63 = c0 ∧ M 138 2 = V 188 64 ∧ nmV V = n0 + V 188 65 ∧ V 188 3 = d0 + V 188 60 ∧ M 138 3 = V 188 66
def thX (M V : pMem) : Prop := ∀ i, i < 24 → bo (V 226 i) ∧ M 28 i = (if V 226 i = 0 then kI (-100) else V 227 i) ∧ (¬ V 226 i = 0 → -50 ≤ (V 227 i).toInt ∧ (V 227 i).toInt ≤ 50)
def thJ (l k : Nat) (o : List Cd) (L : List Ln) (a0 b0 c0 n0 d0 : Int32) (M V : pMem) : Prop := rTg l k o L M V ∧ thC a0 b0 c0 n0 d0 M V ∧ thX M V
/-- what the class does behind a day -/
def lLf (x : Int32) (M1 : pMem) (v : Int32) (X : pMem) : Prop := ∃ M', ((M' = M1 ∧ (v ≤ 0 ∨ ¬ M1 138 2 = kI (-1))) ∨ (¬ v ≤ 0 ∧ M1 138 2 = kI (-1) ∧ M' = aPut M1 138 2 (x + kI 1))) ∧
  ((M' 28 (ix x) = kI (-100) ∧ X = M') ∨ (¬ M' 28 (ix x) = kI (-100) ∧ ∃ v2 M2, D_230 143 M' v2 M2 ∧ X = aPut M2 138 3 (M' 138 3 + pAbs (v2 - M2 28 (ix x)))))
theorem lf_208 {P1 : Int32 → pMem → pT Unit} {x v1 : Int32} {M1 : pMem} {v : Unit} {N : pMem}
    (hs : tIf (v1 ≤ 0) (tGd (pIn x 24) <| tIf ((M1 28 (ix x)) = (kI (-100))) (P1 (x + kI 1) M1) (tCall (D_230 143 M1) fun v2 M2 => tGd (pIn x 24) <| tPut (aPut M2 138 3 ((M1 138 3) + (pAbs (v2 - (M2 28 (ix x)))))) fun M3 => P1 (x + kI 1) M3))
      (tIf (¬ (M1 138 2) = (kI (-1))) (tGd (pIn x 24) <| tIf ((M1 28 (ix x)) = (kI (-100))) (P1 (x + kI 1) M1) (tCall (D_230 143 M1) fun v2 M2 => tGd (pIn x 24) <| tPut (aPut M2 138 3 ((M1 138 3) + (pAbs (v2 - (M2 28 (ix x)))))) fun M3 => P1 (x + kI 1) M3))
        (tPut (aPut M1 138 2 (x + (kI 1))) fun M2 => tGd (pIn x 24) <| tIf ((M2 28 (ix x)) = (kI (-100))) (P1 (x + kI 1) M2) (tCall (D_230 143 M2) fun v2 M3 => tGd (pIn x 24) <| tPut (aPut M3 138 3 ((M2 138 3) + (pAbs (v2 - (M3 28 (ix x)))))) fun M4 => P1 (x + kI 1) M4))) v N) :
    ∃ X, lLf x M1 v1 X ∧ P1 (x + kI 1) X v N := by
  rcases hs with ⟨g, _, hs⟩ | ⟨g, hs⟩
  · rcases hs with ⟨g2, hs⟩ | ⟨g2, v2, M2, h2, _, M3, e3, hs⟩
    · exact ⟨M1, ⟨M1, Or.inl ⟨rfl, Or.inl g⟩, Or.inl ⟨g2, rfl⟩⟩, hs⟩
    · exact ⟨M3, ⟨M1, Or.inl ⟨rfl, Or.inl g⟩, Or.inr ⟨g2, v2, M2, h2, e3⟩⟩, hs⟩
  · rcases hs with ⟨g3, _, hs⟩ | ⟨g3, M0, e0, _, hs⟩
    · rcases hs with ⟨g2, hs⟩ | ⟨g2, v2, M2, h2, _, M3, e3, hs⟩
      · exact ⟨M1, ⟨M1, Or.inl ⟨rfl, Or.inr g3⟩, Or.inl ⟨g2, rfl⟩⟩, hs⟩
      · exact ⟨M3, ⟨M1, Or.inl ⟨rfl, Or.inr g3⟩, Or.inr ⟨g2, v2, M2, h2, e3⟩⟩, hs⟩
    · have g3 := Classical.not_not.mp g3
      rcases hs with ⟨g2, hs⟩ | ⟨g2, v2, M2, h2, _, M3, e3, hs⟩
      · exact ⟨M0, ⟨M0, Or.inr ⟨g, g3, e0⟩, Or.inl ⟨g2, rfl⟩⟩, hs⟩
      · exact ⟨M3, ⟨M0, Or.inr ⟨g, g3, e0⟩, Or.inr ⟨g2, v2, M2, h2, e3⟩⟩, hs⟩
theorem law_pK {kl : Nat} (h : kl < 4) : pK 2 (30 + 11 * kl) = true := by
  have c : ∀ k, k < 4 → pK 2 (30 + 11 * k) = true := by decide +kernel
  exact c kl h
theorem pln_pK {kp : Nat} (h : kp < 4) : pK 3 (37 + 11 * kp) = true := by
  have c : ∀ k, k < 4 → pK 3 (37 + 11 * k) = true := by decide +kernel
  exact c kp h
theorem agV_S {M N : pMem} (h : agS M N) : agV M N := (agS_T h).1
theorem lead_step {kl k : Nat} (hkl : kl < 4) {o : List Cd} {L : List Ln} {a0 b0 c0 n0 d0 : Int32} {M V : pMem} (hJ : thJ (30 + 11 * kl) k o L a0 b0 c0 n0 d0 M V) {i : Nat} (hi : i < 24) {x : Int32} (hx : x.toInt = i) (h60 : V 188 60 = x) (h3 : 0 ≤ (V 188 3).toInt ∧ (V 188 3).toInt ≤ 60)
    {p1 p2 p3 v1 : Int32} {u : Unit} {M1 X N1 N2 : pMem} (hD : D_138 143 (30 + 11 * kl) p1 p2 p3 M v1 M1) (h101 : D_101 p1 p2 p3 V u N1) (hX : lLf x M1 v1 X) (hst : stD N1 N2) :
    thJ (30 + 11 * kl) k o L a0 b0 c0 n0 d0 X N2 ∧ N2 188 60 = x + kI 1 ∧ N2 188 3 = V 188 3 + kI 1 ∧ ∀ b, 24 ≤ b → b < 132 → b ≠ 36 + 11 * kl → X b = M b := by
  obtain ⟨hT, ⟨t1, t2, t3, t4, t5, t6, t7⟩, hC⟩ := hJ
  obtain ⟨⟨rv, rw143, cl, rl⟩, hv, n3, fr, c1, c2, c3, c5, c4⟩ := day_tg (law_pK hkl) hT ⟨h3.1, by omega⟩ hD h101
  obtain ⟨⟨ag, s60, s61, s62, s63, s65, s64⟩, so⟩ := hst
  have f := F_101 h101
  have e60 : N1 188 60 = V 188 60 := f 188 60 (by decide) rfl (by decide +kernel)
  have e61 : N1 188 61 = V 188 61 := f 188 61 (by decide) rfl (by decide +kernel)
  have e62 : N1 188 62 = V 188 62 := f 188 62 (by decide) rfl (by decide +kernel)
  have e63 : N1 188 63 = V 188 63 := f 188 63 (by decide) rfl (by decide +kernel)
  have e64 : N1 188 64 = V 188 64 := f 188 64 (by decide) rfl (by decide +kernel)
  have e65 : N1 188 65 = V 188 65 := f 188 65 (by decide) rfl (by decide +kernel)
  have e66 : N1 188 66 = V 188 66 := f 188 66 (by decide) rfl (by decide +kernel)
  have e226 : ∀ j, N1 226 j = V 226 j := fun j => f 226 j (by decide) rfl (pNo_out (by decide +kernel) j)
  have e227 : ∀ j, N1 227 j = V 227 j := fun j => f 227 j (by decide) rfl (pNo_out (by decide +kernel) j)
  have m138 : M1 138 = M 138 := fr 138 (fun j hj => by omega) (by decide) (by omega)
  have m28 : M1 28 = M 28 := fr 28 (fun j hj => by omega) (by decide) (by omega)
  have exi : ix x = i := ix_of hx
  have exj : ix (N1 188 60 + kI 1 - kI 1) = i := by
    rw [e60, h60]
    refine ix_of ?_
    have q : (x + kI 1).toInt = ((i + 1 : Nat) : Int) := n_add1 hx (by omega)
    rw [i_sub (by rw [q, kI1]; omega) (by rw [q, kI1]; omega), q, kI1]
    omega
  obtain ⟨M', hM', hX⟩ := hX
  have p1' : (∀ b, b ≠ 138 → M' b = M1 b) ∧ M' 138 3 = M1 138 3 ∧ M' 138 2 = N2 188 64 := by
    rcases hM' with ⟨e, hq⟩ | ⟨hq, hq2, e⟩
    · refine ⟨fun b _ => by rw [e], by rw [e], ?_⟩
      rw [s64, if_neg, e64, e, m138, t4]
      rintro ⟨z1, z2⟩
      rcases hq with hq | hq
      · rw [hv] at hq
        exact z2 (c4.mp hq)
      · exact hq (by rw [m138, t4, ← e64]; exact z1)
    · refine ⟨fun b hb => by rw [e]; exact apR hb, by rw [e, aPut_at (by decide)], ?_⟩
      rw [hv] at hq
      rw [s64, if_pos ⟨by rw [e64, ← t4, ← m138]; exact hq2, fun z => hq (c4.mpr z)⟩, e, aPut_same, e60, h60]
  obtain ⟨pb, p3', p2'⟩ := p1'
  have w' : rW 143 M' N1 := rW_eq rw143 fun j hj => pb _ (by omega)
  have h28 : M' 28 i = (if V 226 i = 0 then kI (-100) else V 227 i) := by rw [pb 28 (by decide), m28]; exact (hC i hi).2.1
  have key : (∀ b, b ≠ 138 → X b = M1 b) ∧ X 138 2 = N2 188 64 ∧ X 138 3 = N2 188 66 := by
    rw [exi] at hX
    unfold cnO at so
    rw [exj, e226, e227] at so
    rcases hX with ⟨g, e⟩ | ⟨g, v2, M2, h230, e⟩
    · rcases so with ⟨g2, s66⟩ | ⟨g2, _⟩
      · exact ⟨fun b hb => by rw [e, pb b hb], by rw [e, p2'], by rw [e, p3', m138, t7, s66, e66]⟩
      · rw [h28, if_neg g2] at g
        have r := ((hC i hi).2.2 g2).1
        rw [g, kI_toInt (by decide) (by decide)] at r
        omega
    · rcases so with ⟨g2, _⟩ | ⟨g2, Y, v3, Z, agY, h55, s66⟩
      · exact absurd (by rw [h28, if_pos g2]) g
      · have aY := agV_S agY
        obtain ⟨z1, z2, _⟩ := cross_tg (rV_cg rv aY) (rW_cg w' aY) h230 h55
        rw [z2] at e
        refine ⟨fun b hb => by rw [e, apR hb, pb b hb], by rw [e, aPut_at (by decide), p2'], ?_⟩
        rw [e, aPut_same, s66, z1, abs_44, h28, if_neg g2, p3', m138, t7, e66]
  obtain ⟨xb, x2, x3⟩ := key
  have aN := agV_S ag
  have nR : ∀ b, b < 230 → pScrA b = false → b ≠ 188 → N2 b = N1 b := fun b h1 h2 h3 => funext fun j => ag b j h1 (pScr_of h2 h3 j) (fun q => h3 q.1)
  refine ⟨⟨⟨rV_cg rv aN, rW_cg (rW_eq rw143 fun j hj => xb _ (by omega)) aN, cLk_c cl fun b h1 h2 => xb b (by omega), ?_⟩, ⟨?_, ?_, ?_, x2, ?_, ?_, x3⟩, ?_⟩, ?_, ?_, ?_⟩
  · exact rLk_v rl (fun b h1 h2 => nR b (by omega) (by
      have e : b = 204 ∨ b = 205 ∨ b = 206 ∨ b = 207 ∨ b = 208 ∨ b = 209 ∨ b = 210 ∨ b = 211 := by omega
      rcases e with rfl | rfl | rfl | rfl | rfl | rfl | rfl | rfl <;> rfl) (by omega)) (ag 188 4 (by decide) rfl (by omega))
  · rw [nR 197 (by decide) rfl (by decide), c1, t1, s61, e61, Int32.add_assoc]
  · rw [nR 198 (by decide) rfl (by decide), c2, t2, s62, e62, Int32.add_assoc]
  · rw [thV_c (nR 191 (by decide) rfl (by decide)), s63, e63, Int32.add_comm (V 188 63), ← Int32.add_assoc, c3]
    exact t3
  · rw [nmV_c (nR 196 (by decide) rfl (by decide)), c5, t5, s65, e65, Int32.add_assoc]
  · rw [ag 188 3 (by decide) rfl (by omega), n3, t6, s60, e60, Int32.add_assoc]
  · intro j hj
    rw [nR 226 (by decide) rfl (by decide), nR 227 (by decide) rfl (by decide), e226, e227, xb 28 (by decide), m28]
    exact hC j hj
  · rw [s60, e60, h60]
  · rw [ag 188 3 (by decide) rfl (by omega), n3]
  · intro b h1 h2 h4
    rw [xb b (by omega)]
    exact fr b (fun j hj => by omega) (by omega) (by omega)
/-- a plan's day as it is led: with men on the sly, or without -/
def slD (p4 : Int32) (d : Dy) : Dy := if p4 = 0 then (d.1, d.2.1, kI (-1)) else d
def lQ8 (kp kl k : Nat) (p4 : Int32) (D : List Dy) (o : List Cd) (L : List Ln) (a0 b0 c0 n0 d0 x : Int32) (M : pMem) (_ : Unit) (N : pMem) : Prop := ∀ i : Nat, x.toInt = i → i ≤ D.length → pdOk M (37 + 11 * kp) D → ∀ V Vn, thJ (30 + 11 * kl) k o L a0 b0 c0 n0 d0 M V → V 188 60 = x → (0 ≤ (V 188 3).toInt ∧ (V 188 3).toInt ≤ 60) → rDays ((D.map (slD p4)).drop i) V Vn → thJ (30 + 11 * kl) k o L a0 b0 c0 n0 d0 N Vn
theorem L_208_v {kp kl k : Nat} (hkp : kp < 4) (hkl : kl < 4) {p4 : Int32} {D : List Dy} {o : List Cd} {L : List Ln} {a0 b0 c0 n0 d0 x : Int32} {M : pMem} {v : Unit} {N : pMem} (h : L_208_1 (37 + 11 * kp) (30 + 11 * kl) p4 x M v N) :
    lQ8 kp kl k p4 D o L a0 b0 c0 n0 d0 x M v N := by
  refine h (lQ8 kp kl k p4 D o L a0 b0 c0 n0 d0) ?_
  intro x M v N hs i hx hi hD V Vn hJ h60 h3 hr
  have hl : (M (37 + 11 * kp) 0).toInt = D.length := hD.1
  have e4 : M 143 4 = V 188 3 := hJ.1.2.1.2.2.2.2.1.1
  rcases hs with ⟨g1, _, hN⟩ | ⟨g1, hs⟩
  · rw [i_le, hl, hx] at g1
    rw [drop_nil (by rw [List.length_map]; omega)] at hr
    have e2 : Vn = V := hr
    rw [hN, e2]
    exact hJ
  · rw [i_le, hl, hx] at g1
    have hi2 : i < D.length := by omega
    rw [drop_at (by rw [List.length_map]; exact hi2), List.getElem_map] at hr
    rcases hs with ⟨g2, _, hN⟩ | ⟨g2, hs⟩
    · rw [e4, i_le, kI_toInt (by decide) (by decide)] at g2
      rcases hr with ⟨_, e2⟩ | ⟨q, _⟩
      · rw [hN, e2]
        exact hJ
      · exact absurd (show V 188 3 = kI 60 from kI_inj (by omega)) q
    · rw [e4, i_le, kI_toInt (by decide) (by decide)] at g2
      rcases hr with ⟨q, _⟩ | ⟨_, u, N1, N2, h101, hst, hr⟩
      · rw [q, kI_toInt (by decide) (by decide)] at g2
        omega
      · obtain ⟨q1, q2, q3⟩ := hD.2 i D[i] (List.getElem?_eq_getElem hi2)
        have step : ∀ {M1 X : pMem} {v1 : Int32}, i < 24 → D_138 143 (30 + 11 * kl) (slD p4 D[i]).1 (slD p4 D[i]).2.1 (slD p4 D[i]).2.2 M v1 M1 → lLf x M1 v1 X →
            lQ8 kp kl k p4 D o L a0 b0 c0 n0 d0 (x + kI 1) X v N →
            thJ (30 + 11 * kl) k o L a0 b0 c0 n0 d0 N Vn := by
          intro M1 X v1 i24 h138 hX hh
          obtain ⟨j1, j2, j3, j4⟩ := lead_step hkl hJ i24 hx h60 h3 h138 h101 hX hst
          have n1 : (x + kI 1).toInt = ((i + 1 : Nat) : Int) := n_add1 hx (by omega)
          have n3 : (N2 188 3).toInt = (V 188 3).toInt + 1 := by rw [j3, i_add1 (by omega)]
          have pr : ∀ o, o < 4 → X (37 + 11 * kp + o) = M (37 + 11 * kp + o) := fun o ho => j4 _ (by omega) (by omega) (by omega)
          exact hh (i + 1) n1 (by omega) (pdOk_eq hD (congrFun (pr 0 (by decide)) 0) fun j => ⟨congrFun (pr 1 (by decide)) j, congrFun (pr 2 (by decide)) j, congrFun (pr 3 (by decide)) j⟩) N2 Vn j1 j2 ⟨by omega, by omega⟩ hr
        rcases hs with ⟨g4, hs⟩ | ⟨g4, hs⟩
        · obtain ⟨c4, _, v1, M1, h138, hs⟩ := hs
          have es : slD p4 D[i] = (D[i].1, D[i].2.1, kI (-1)) := by unfold slD; rw [if_pos g4]
          have i24 := (ix_in c4).2
          rw [ix_of hx] at i24 h138
          obtain ⟨X, hX, hP⟩ := lf_208 (P1 := lQ8 kp kl k p4 D o L a0 b0 c0 n0 d0) hs
          refine step i24 ?_ hX hP
          rw [es, ← q1, ← q2]
          exact h138
        · obtain ⟨c4, _, _, v1, M1, h138, hs⟩ := hs
          have es : slD p4 D[i] = D[i] := by unfold slD; rw [if_neg g4]
          have i24 := (ix_in c4).2
          rw [ix_of hx] at i24 h138
          obtain ⟨X, hX, hP⟩ := lf_208 (P1 := lQ8 kp kl k p4 D o L a0 b0 c0 n0 d0) hs
          refine step i24 ?_ hX hP
          rw [es, ← q1, ← q2, ← q3]
          exact h138
/-! led, off, fitting: both sides say the same -/
theorem agV_of {V U : pMem} (h : ∀ a j, plT a j → ¬ (a = 188 ∧ (j = 4 ∨ j = 71)) → U a j = V a j) : agV V U := by
  have e8 : ∀ j, (j = 1 ∨ j = 2 ∨ j = 3 ∨ j = 17 ∨ j = 18 ∨ j = 19 ∨ j = 20 ∨ j = 21) → U 188 j = V 188 j := fun j hj => h 188 j (Or.inl ⟨rfl, by omega⟩) (by omega)
  refine ⟨⟨e8 1 (by omega), e8 2 (by omega), e8 3 (by omega), e8 17 (by omega), e8 18 (by omega), e8 19 (by omega), e8 20 (by omega), e8 21 (by omega)⟩, fun i hi => ⟨?_, ?_, ?_⟩, fun k hk => ⟨?_, ?_⟩, fun l hl => ⟨?_, ?_, ?_, ?_, ?_⟩⟩
  all_goals (refine h _ _ ?_ (by omega); unfold plT; omega)
/-- all that is told, and the plans -/
def rTP (M V : pMem) : Prop := rT 18 M V ∧ ∀ k, k < 4 → rPlan M (37 + 11 * k) (V 213 k) (V 214) (V 215) (24 * k)
/-- where the reference stands, as it begins to think by law kl -/
def thB (V R : pMem) (kl : Nat) : Prop := (∀ a j, 188 ≤ a → a < 230 → pScr a j = false → a ≠ 222 → ¬ (a = 188 ∧ (j = 4 ∨ 60 ≤ j ∧ j ≤ 69)) → R a j = V a j) ∧ (R 188 4).toInt = kl
theorem thB_rows {V R : pMem} {kl : Nat} (h : thB V R kl) {a : Nat} (h1 : 188 < a) (h2 : a < 230) (h3 : pScrA a = false) (h4 : a ≠ 222) : R a = V a := funext fun j => h.1 a j (by omega) h2 (pScr_of h3 (by omega) j) h4 (by omega)
theorem thB_V {V R : pMem} {kl : Nat} (h : thB V R kl) : agV V R := agV_of fun a j hp hn => by
  have q : 188 ≤ a ∧ a < 230 ∧ a ≠ 222 ∧ ¬ (a = 188 ∧ 60 ≤ j ∧ j ≤ 69) := by unfold plT at hp; omega
  rcases plT_in hp with e | ⟨e, e2⟩
  · obtain ⟨c1, c2, c3⟩ := plRows_sc a e
    exact h.1 a j q.1 c1 (pScr_of c2 c3 j) q.2.2.1 (by omega)
  · subst e
    exact h.1 188 j (by decide) (by decide) (pl188_sc j e2) (by decide) (by omega)
/-- the class's wood in thought, the reference where it thinks -/
theorem th_start {M N V R : pMem} {kl : Nat} (hkl : kl < 4) (h : rT 18 M V) (hB : thB V R kl) {v : Unit} (hD : D_207 M v N) : ∃ o L, rTg (30 + 11 * kl) kl o L N R ∧ ∀ b, (b < 143 ∨ 148 ≤ b) → N b = M b := by
  obtain ⟨⟨hV, _, d0, d60⟩, ⟨hW, _⟩, _, hlw, _⟩ := h
  have hW : rW 19 M V := hW
  obtain ⟨_, N', h220, _, hN⟩ := hD
  obtain ⟨c1, c2, c3, c4, c5⟩ := D_220_w (Or.inr (by decide)) h220
  rw [← hN] at c1 c2 c3 c4 c5
  obtain ⟨o, L, c, r, x, y⟩ := hlw kl hkl
  have ag := thB_V hB
  refine ⟨o, L, ⟨rV_cg hV ag, rW_cg (rW_mv hW c1 c2 c3 c4) ag, ⟨clLaw_eq c fun b h1 h2 => c5 b (by omega), y⟩, ⟨⟨?_, x⟩, c.2.1, y, by omega, hB.2⟩⟩, c5⟩
  rw [thB_rows hB (a := 204) (by decide) (by decide) rfl (by decide), thB_rows hB (a := 205) (by decide) (by decide) rfl (by decide), thB_rows hB (a := 206) (by decide) (by decide) rfl (by decide), thB_rows hB (a := 207) (by decide) (by decide) rfl (by decide), thB_rows hB (a := 208) (by decide) (by decide) rfl (by decide), thB_rows hB (a := 209) (by decide) (by decide) rfl (by decide), thB_rows hB (a := 210) (by decide) (by decide) rfl (by decide), thB_rows hB (a := 211) (by decide) (by decide) rfl (by decide)]
  exact r
theorem slD_L {p : Int32} {l : List (Int32 × Int32)} : (l.foldl plDay ([], kI (-1))).1.map (slD p) = dyL p (kI (-1)) l := by
  by_cases c : p = 0
  · have e : slD p = fun d => (d.1, d.2.1, kI (-1)) := funext fun d => by unfold slD; rw [if_pos c]
    have q := dyL_0 (l := l) (a := []) (s := kI (-1))
    rw [e, c]
    exact q
  · have e : slD p = fun d => d := funext fun d => by unfold slD; rw [if_neg c]
    have q := dyL_fold c (l := l) (a := []) (s := kI (-1))
    rw [e, List.map_id']
    exact q
/-- led: at the end -/
theorem lead_v {M N V R Rn : pMem} {kp kl : Nat} (hkp : kp < 4) (hkl : kl < 4) (h : rTP M V) (hB : thB V R kl) {p1 p4 : Int32} (hp1 : p1.toInt = kp) {v u : Unit} (hD : D_208 (37 + 11 * kp) (30 + 11 * kl) p4 M v N) (h105 : D_105 p1 p4 R u Rn) :
    ∃ o L, thJ (30 + 11 * kl) kl o L (f_236 19 (kI 4) M) (f_236 19 (kI 5) M) (f_239 (M 19 2)) (f_238 19 M) (M 19 4) N Rn := by
  obtain ⟨hT, hP⟩ := h
  obtain ⟨l, l1, l2, l3, l4⟩ := hP kp hkp
  have eB : ∀ a, a = 213 ∨ a = 214 ∨ a = 215 → R a = V a := fun a ha => thB_rows hB (by omega) (by omega) (by rcases ha with rfl | rfl | rfl <;> rfl) (by omega)
  obtain ⟨R7, z, q7, hr⟩ := D_105_d hp1 (by omega) l1 (by rw [eB 213 (by omega)]; exact l2) (by rw [eB 214 (by omega), eB 215 (by omega)]; exact l3) h105
  have hB7 : thB V R7 kl := ⟨fun a j h1 h2 h3 h4 h5 => by rw [q7 a j (by omega)]; exact hB.1 a j h1 h2 h3 h4 h5, by rw [q7 188 4 (by omega)]; exact hB.2⟩
  obtain ⟨_, M1, h207, M2, e2, M3, e3, hL⟩ := hD
  obtain ⟨o, L, hg, hM1⟩ := th_start hkl hT hB7 h207
  have m3 : ∀ b, b ≠ 138 → M3 b = M1 b := fun b hb => by rw [e3, apR hb, e2, apR hb]
  have ag := thB_V hB7
  obtain ⟨⟨hV, _, d0, d60⟩, ⟨hW, _⟩, _, _, _, _, hX, _⟩ := id hT
  have hW : rW 19 M V := hW
  have hW7 : rW 19 M R7 := rW_cg hW ag
  refine ⟨o, L, L_208_v hkp hkl hL (D := (l.foldl plDay ([], kI (-1))).1) 0 rfl (Nat.zero_le _) (pdOk_eq l4 ?_ fun i => ⟨?_, ?_, ?_⟩) R7 Rn ⟨⟨hg.1, rW_eq hg.2.1 fun j hj => m3 _ (by omega), cLk_c hg.2.2.1 fun b h1 h2 => m3 b (by omega), hg.2.2.2⟩, ⟨?_, ?_, ?_, ?_, ?_, ?_, ?_⟩, ?_⟩ z.1 ?_ ?_⟩
  · rw [m3 _ (by omega), hM1 _ (by omega)]
  · rw [m3 _ (by omega), hM1 _ (by omega)]
  · rw [m3 _ (by omega), hM1 _ (by omega)]
  · rw [m3 _ (by omega), hM1 _ (by omega)]
  · rw [(f236_V hW7).1, z.2.1, kIz, Int32.add_zero]
  · rw [(f236_V hW7).2, z.2.2.1, kIz, Int32.add_zero]
  · rw [th_cnt (rV_cg hV ag) hW7, z.2.2.2.1, kIz, Int32.add_zero]
  · rw [e3, aPut_at (by decide), e2, aPut_same, z.2.2.2.2.1]
  · rw [f238_V hW7, z.2.2.2.2.2.1, kIz, Int32.add_zero]
  · rw [z.1, kIz, Int32.add_zero]
    exact hW7.2.2.2.2.1.1.symm
  · rw [e3, aPut_same, z.2.2.2.2.2.2]
  · intro i hi
    rw [thB_rows hB7 (a := 226) (by decide) (by decide) rfl (by decide), thB_rows hB7 (a := 227) (by decide) (by decide) rfl (by decide), m3 28 (by decide), hM1 28 (by decide)]
    exact hX i hi
  · rw [ag.1.2.2.1]
    exact ⟨d0, d60⟩
  · rw [List.drop_zero, slD_L]
    exact hr
/-- what is put aside, and where the reference begins -/
theorem thB_of {M V R1 R2 : pMem} {kl : Nat} {p x : Int32} (hp : p.toInt = kl) {u : Unit} (hs : R1 = M ∨ R1 = aPut M 188 0 x) (h : D_108 (kI 1) R1 u R2) (hV : ∀ a j, 188 ≤ a → a < 230 → pScr a j = false → M a j = V a j) : thB V (aPut R2 188 4 p) kl := by
  have q := (D_108_put h (by decide)).2
  refine ⟨fun a j h1 h2 h3 h4 h5 => ?_, by rw [aPut_same]; exact hp⟩
  have e : aPut R2 188 4 p a j = R2 a j := by
    by_cases ea : a = 188
    · subst ea
      exact aPut_at (by omega)
    · exact aPut_cell ea
  rw [e, q a j h4 (by omega), ← hV a j h1 h2 h3]
  rcases hs with e | e
  · rw [e]
  · rw [e]
    by_cases ea : a = 188
    · subst ea
      refine aPut_at fun e0 => ?_
      subst e0
      exact absurd h3 (by decide)
    · exact aPut_cell ea
theorem as_n60 {i : Nat} (h : i < 1122) (j : Nat) (h1 : 60 ≤ j) : ¬ ((asP i).1 = 188 ∧ (asP i).2 = j) := fun q => by
  have ck : (List.range 1122).all (fun i => !(Nat.beq (asP i).1 188 && Nat.ble 60 (asP i).2)) = true := by decide +kernel
  have r := List.all_eq_true.mp ck i (List.mem_range.mpr h)
  rw [q.1, q.2, show Nat.beq 188 188 = true from rfl, show Nat.ble 60 j = true from Nat.ble_eq.mpr h1] at r
  cases r
theorem get_60 {M N : pMem} {u : Unit} (h : D_108 (kI 0) M u N) {j : Nat} (h1 : 60 ≤ j) (h2 : j ≤ 67) : N 188 j = M 188 j := (D_108_get h rfl).2.2 188 j (fun i hi => as_n60 hi j h1) (by omega)
theorem f_109_iff {x : Int32} : ¬ f_109 x = 0 ↔ 0 ≤ x.toInt ∧ x.toInt < 4 := by
  unfold f_109
  rw [f_42_iff, i_le, i_le, kI_toInt (by decide) (by decide), kI_toInt (by decide) (by decide)]
  omega
/-- the class's thought leaves the reference -/
theorem fr_188 {L : List (Nat × Nat)} {M N : pMem} (f : pFr L M N) (k : ((List.range 42).all fun o => pNo L (188 + o)) = true) : ∀ a j, 188 ≤ a → a < 230 → pScr a j = false → N a j = M a j := fun a j h1 h2 h3 => by
  have q := List.all_eq_true.mp k (a - 188) (List.mem_range.mpr (by omega))
  rw [show 188 + (a - 188) = a by omega] at q
  exact f a j h2 h3 (pNo_out q j)
theorem rF_TP {M : pMem} (h : rF M) : rTP M M := ⟨h.2.1, fun k hk => h.1.2.2.2.2.1 k hk⟩
theorem op_led_v {p1 p2 p3 p4 v u : Int32} {M M1 M2 : pMem} (h : rF M) (h1 : D_17 p1 p2 p3 p4 M v M1) (h2 : D_110 p1 p2 p3 p4 M1 u M2) : v = u := by
  have hP := rF_TP h
  have f17 := F_17 h1
  have c8 := fr_188 f17 (by decide +kernel)
  obtain ⟨R0, e0, h2⟩ := h2
  by_cases g1 : 0 ≤ p1.toInt ∧ p1.toInt < 4
  · have h1 := tIf_n (f_33_iff.mpr g1) h1
    have h2 := tIf_n (f_109_iff.mpr g1) h2
    by_cases g2 : 0 ≤ p2.toInt ∧ p2.toInt < 4
    · have h1 := tIf_p (f_33_iff.mpr g2) h1
      have h2 := tIf_n (f_109_iff.mpr g2) h2
      obtain ⟨kp, hkp⟩ : ∃ k : Nat, p1.toInt = k := ⟨p1.toInt.toNat, by omega⟩
      obtain ⟨kl, hkl⟩ : ∃ k : Nat, p2.toInt = k := ⟨p2.toInt.toNat, by omega⟩
      obtain ⟨_, _, _, X, h208, h1⟩ := h1
      rw [ix_of hkp, ix_of hkl] at h208
      have f208 := F_208 (pln_pK (by omega)) (law_pK (by omega)) h208
      have x19 : ∀ b, 19 ≤ b → b < 24 → X b = M b := fun b q1 q2 => funext fun j => f208 b j (by omega) (pScr_of (by
        have e : b = 19 ∨ b = 20 ∨ b = 21 ∨ b = 22 ∨ b = 23 := by omega
        rcases e with rfl | rfl | rfl | rfl | rfl <;> rfl) (by omega) j) (by simp only [l_208, pOut_cons, pOut_nil, true_or, and_true]; omega)
      have s236 : ∀ p, f_236 19 p X = f_236 19 p M := fun p => by unfold f_236; rw [x19 23 (by decide) (by decide)]
      have s238 : f_238 19 X = f_238 19 M := by unfold f_238 f_237; rw [x19 23 (by decide) (by decide)]
      by_cases g3 : 0 ≤ p4.toInt ∧ p4.toInt ≤ 6
      · have h2 := tIf_p (f_42_iff.mpr ⟨by rw [i_le, kI_toInt (by decide) (by decide)]; exact g3.1, by rw [i_le, kI_toInt (by decide) (by decide)]; exact g3.2⟩) h2
        obtain ⟨_, R2, h108, R3, e3, _, R4, h105, v3, R5, h55, _, R6, hget, h2⟩ := h2
        have hB := thB_of (x := kI 0) hkl (Or.inr e0) h108 c8
        rw [← e3] at hB
        obtain ⟨o, L, ⟨hV4, hW4, _⟩, ⟨t1, t2, t3, t4, t5, t6, t7⟩, _⟩ := lead_v (by omega) (by omega) hP hB hkp h208 h105
        obtain ⟨n, hn⟩ := hV4.1
        have e5 : R5 = R4 := (D_55_w hn (fun i hi => (hV4.2.1 i hi).1) h55).2
        have g : ∀ j, 60 ≤ j → j ≤ 67 → R6 188 j = R4 188 j := fun j q1 q2 => by rw [get_60 hget q1 q2, e5]
        obtain ⟨w1, w2⟩ := f236_V hW4
        by_cases c0 : p4 = kI 0
        · obtain ⟨hv, _⟩ := tIf_p c0 h1
          obtain ⟨hu, _⟩ := tIf_n (nn c0) h2
          rw [hv, hu, g 61 (by decide) (by decide), w1, s236, t1]
          exact i_asc
        have h1 := tIf_n c0 h1
        have h2 := tIf_p (show ¬ p4 = 0 from c0) h2
        by_cases c1 : p4 = kI 1
        · obtain ⟨hv, _⟩ := tIf_p c1 h1
          obtain ⟨hu, _⟩ := tIf_n (nn c1) h2
          rw [hv, hu, g 62 (by decide) (by decide), w2, s236, t2]
          exact i_asc
        have h1 := tIf_n c1 h1
        have h2 := tIf_p c1 h2
        by_cases c2 : p4 = kI 2
        · obtain ⟨v2, Y, h230, hv, _⟩ := tIf_p c2 h1
          obtain ⟨hu, _⟩ := tIf_n (nn c2) h2
          rw [hv, hu]
          exact (cross_tg hV4 hW4 h230 h55).1
        have h1 := tIf_n c2 h1
        have h2 := tIf_p c2 h2
        by_cases c3 : p4 = kI 3
        · obtain ⟨hv, _⟩ := tIf_p c3 h1
          obtain ⟨hu, _⟩ := tIf_n (nn c3) h2
          rw [hv, hu, g 63 (by decide) (by decide), th_cnt hV4 hW4, x19 19 (by decide) (by decide), ← t3]
          exact i_asc
        have h1 := tIf_n c3 h1
        have h2 := tIf_p c3 h2
        by_cases c4 : p4 = kI 4
        · obtain ⟨hv, _⟩ := tIf_p c4 h1
          obtain ⟨hu, _⟩ := tIf_n (nn c4) h2
          rw [hv, hu, g 64 (by decide) (by decide), t4]
        have h1 := tIf_n c4 h1
        have h2 := tIf_p c4 h2
        by_cases c5 : p4 = kI 5
        · obtain ⟨hv, _⟩ := tIf_p c5 h1
          obtain ⟨hu, _⟩ := tIf_n (nn c5) h2
          rw [hv, hu, g 65 (by decide) (by decide), f238_V hW4, s238, t5]
          exact i_asc
        have h1 := tIf_n c5 h1
        have h2 := tIf_p c5 h2
        have c6 : p4 = kI 6 := kI_inj (by
          have n0 : p4.toInt ≠ 0 := fun q => c0 (kI_inj q)
          have n1 : p4.toInt ≠ 1 := fun q => c1 (kI_inj q)
          have n2 : p4.toInt ≠ 2 := fun q => c2 (kI_inj q)
          have n3 : p4.toInt ≠ 3 := fun q => c3 (kI_inj q)
          have n4 : p4.toInt ≠ 4 := fun q => c4 (kI_inj q)
          have n5 : p4.toInt ≠ 5 := fun q => c5 (kI_inj q)
          omega)
        obtain ⟨hv, _⟩ := tIf_p c6 h1
        obtain ⟨hu, _⟩ := h2
        have e4 : X 143 4 = R4 188 3 := hW4.2.2.2.2.1.1
        rw [hv, hu, g 60 (by decide) (by decide), e4, x19 19 (by decide) (by decide), t6]
        exact i_asc
      · have h2 := tIf_n (fun q => g3 (by
          obtain ⟨q1, q2⟩ := f_42_iff.mp q
          rw [i_le, kI_toInt (by decide) (by decide)] at q1
          rw [i_le, kI_toInt (by decide) (by decide)] at q2
          exact ⟨q1, q2⟩)) h2
        have nk : ∀ n : Int, 0 ≤ n → n ≤ 6 → ¬ p4 = kI n := fun n q1 q2 e => g3 (by rw [e, kI_toInt (by omega) (by omega)]; exact ⟨q1, q2⟩)
        have h1 := tIf_n (nk 0 (by decide) (by decide)) h1
        have h1 := tIf_n (nk 1 (by decide) (by decide)) h1
        have h1 := tIf_n (nk 2 (by decide) (by decide)) h1
        have h1 := tIf_n (nk 3 (by decide) (by decide)) h1
        have h1 := tIf_n (nk 4 (by decide) (by decide)) h1
        have h1 := tIf_n (nk 5 (by decide) (by decide)) h1
        have h1 := tIf_n (nk 6 (by decide) (by decide)) h1
        rw [h1.1, h2.1]
    · have h1 := tIf_n (fun q => g2 (f_33_iff.mp q)) h1
      have h2 := tIf_p (Classical.not_not.mp fun q => g2 (f_109_iff.mp q)) h2
      rw [h1.1, h2.1]
  · have h1 := tIf_p (Classical.not_not.mp fun q => g1 (f_33_iff.mp q)) h1
    have h2 := tIf_p (Classical.not_not.mp fun q => g1 (f_109_iff.mp q)) h2
    rw [h1.1, h2.1]
/-- off of one law -/
theorem off_v {M N V R V1 : pMem} {kp kl : Nat} (hkp : kp < 4) (hkl : kl < 4) (h : rTP M V) {p1 p2 w x : Int32} (hp1 : p1.toInt = kp) (hp2 : p2.toInt = kl) {v : Unit} (hD : D_208 (37 + 11 * kp) (30 + 11 * kl) (kI 1) M v N) (hV : ∀ a j, 188 ≤ a → a < 230 → pScr a j = false → R a j = V a j) (h118 : D_118 p1 p2 R w V1) : N 138 3 = w := by
  obtain ⟨_, R2, h108, R3, e3, _, R4, h105, _, R5, hget, hw, _⟩ := h118
  have hB := thB_of (x := x) hp2 (Or.inl rfl) h108 hV
  rw [← e3] at hB
  obtain ⟨o, L, _, ⟨_, _, _, _, _, _, t7⟩, _⟩ := lead_v hkp hkl h hB hp1 hD h105
  rw [t7, hw, get_60 hget (by decide) (by decide)]
theorem p0_sc {M : pMem} {x : Int32} : ∀ a j, 188 ≤ a → a < 230 → pScr a j = false → aPut M 188 0 x a j = M a j := fun a j _ _ h3 => by
  by_cases ea : a = 188
  · subst ea
    refine aPut_at fun e0 => ?_
    subst e0
    exact absurd h3 (by decide)
  · exact aPut_cell ea
theorem op_off_v {p1 p2 v u : Int32} {M M1 M2 : pMem} (h : rF M) (h1 : D_23 p1 p2 M v M1) (h2 : D_119 p1 p2 M1 u M2) : v = u := by
  have hP := rF_TP h
  have c8 := fr_188 (F_23 h1) (by decide +kernel)
  obtain ⟨R0, e0, h2⟩ := h2
  by_cases g1 : 0 ≤ p1.toInt ∧ p1.toInt < 4
  · have h1 := tIf_n (f_33_iff.mpr g1) h1
    have h2 := tIf_n (f_109_iff.mpr g1) h2
    by_cases g2 : 0 ≤ p2.toInt ∧ p2.toInt < 4
    · have h1 := tIf_p (f_33_iff.mpr g2) h1
      have h2 := tIf_n (f_109_iff.mpr g2) h2
      obtain ⟨kp, hkp⟩ : ∃ k : Nat, p1.toInt = k := ⟨p1.toInt.toNat, by omega⟩
      obtain ⟨kl, hkl⟩ : ∃ k : Nat, p2.toInt = k := ⟨p2.toInt.toNat, by omega⟩
      obtain ⟨_, _, _, X, h208, hv, _⟩ := h1
      rw [ix_of hkp, ix_of hkl] at h208
      obtain ⟨w, R1, h118, hu, _⟩ := h2
      rw [hv, hu]
      exact off_v (x := 0) (by omega) (by omega) hP hkp hkl h208 (fun a j q1 q2 q3 => by rw [e0, p0_sc a j q1 q2 q3]; exact c8 a j q1 q2 q3) h118
    · have h1 := tIf_n (fun q => g2 (f_33_iff.mp q)) h1
      have h2 := tIf_p (Classical.not_not.mp fun q => g2 (f_109_iff.mp q)) h2
      rw [h1.1, h2.1]
  · have h1 := tIf_p (Classical.not_not.mp fun q => g1 (f_33_iff.mp q)) h1
    have h2 := tIf_p (Classical.not_not.mp fun q => g1 (f_109_iff.mp q)) h2
    rw [h1.1, h2.1]
/-! fitting -/
theorem rTP_c {pl l : Nat} {M N V : pMem} (hpl : pK 3 pl = true) (hl : pK 2 l = true) {p : Int32} {v : Unit} (hD : D_208 pl l p M v N) (h : rTP M V) : rTP N V := by
  have f : pFr l_17 M N := F_208 hpl hl hD
  refine ⟨rT_mv h.1 (cpC_of (kC_s (Or.inl rfl) f (by decide +kernel))) agT_r, fun k hk => ?_⟩
  have c : ∀ o j, o < 4 → N (37 + 11 * k + o) j = M (37 + 11 * k + o) j := fun o j ho => f _ _ (by omega) (pl_scr hk ho) (by simp only [l_17, pOut_cons, pOut_nil, true_or, and_true]; omega)
  exact rPlan_eq (h.2 k hk) rfl (c 0 0 (by decide)) (fun i => ⟨c 1 i (by decide), c 2 i (by decide), c 3 i (by decide)⟩) (fun i _ => ⟨rfl, rfl⟩)
theorem rTP_r {M V U : pMem} {p1 p2 w : Int32} (hD : D_118 p1 p2 V w U) (h : rTP M V) : rTP M U := by
  have f := F_118 hD
  refine ⟨rT_mv h.1 cp_r (kW_s f (by decide +kernel) (D_118_s hD)), fun k hk => ?_⟩
  have c : ∀ a j, a = 213 ∨ a = 214 ∨ a = 215 → U a j = V a j := fun a j ha => f a j (by omega) (by rcases ha with rfl | rfl | rfl <;> rfl) (by rcases ha with rfl | rfl | rfl <;> exact pNo_out (by decide +kernel) j)
  exact rPlan_eq (h.2 k hk) (c 213 k (by omega)) rfl (fun i => ⟨rfl, rfl, rfl⟩) (fun i _ => ⟨c 214 _ (by omega), c 215 _ (by omega)⟩)
/-- the reference's laws, one after another: r are left, the next is j -/
def rFit (p1 : Int32) : Nat → Nat → Int32 → Int32 → pMem → Int32 → Prop
  | 0, _, b, _, _, u => u = b
  | r + 1, j, b, s, V, u => ∃ w V1, D_118 p1 (kI (j : Nat)) V w V1 ∧ ((w < s ∧ rFit p1 r (j + 1) (kI (j : Nat)) w V1 u) ∨ (¬ w < s ∧ rFit p1 r (j + 1) b s V1 u))
theorem L_120_v {p1 x2 x3 x4 : Int32} {V : pMem} {u : Int32} {N : pMem} (h : L_120_3 p1 x2 x3 x4 V u N) : ∀ j : Nat, x4.toInt = j → j ≤ 4 → rFit p1 (4 - j) j x2 x3 V u := by
  refine h (fun x2 x3 x4 V u N => ∀ j : Nat, x4.toInt = j → j ≤ 4 → rFit p1 (4 - j) j x2 x3 V u) ?_
  intro x2 x3 x4 V u N hs j hx hj
  rcases hs with ⟨g, hu, _⟩ | ⟨g, w, V1, h118, hs⟩
  · rw [i_le, hx, kI_toInt (by decide) (by decide)] at g
    rw [show 4 - j = 0 by omega]
    exact hu
  · rw [i_le, hx, kI_toInt (by decide) (by decide)] at g
    rw [show 4 - j = (4 - (j + 1)) + 1 by omega]
    have ex : x4 = kI (j : Nat) := kI_inj hx
    rw [ex] at h118
    refine ⟨w, V1, h118, ?_⟩
    have n1 : (x4 + kI 1).toInt = ((j + 1 : Nat) : Int) := n_add1 hx (by omega)
    rcases hs with ⟨g2, hs⟩ | ⟨g2, hs⟩
    · have r := hs (j + 1) n1 (by omega)
      rw [ex] at r
      exact Or.inl ⟨g2, r⟩
    · exact Or.inr ⟨g2, hs (j + 1) n1 (by omega)⟩
def fitQ (p1 : Int32) (x2 x3 x4 : Int32) (M : pMem) (v : Int32) (_ : pMem) : Prop := ∀ j : Nat, x4.toInt = j → j ≤ 4 → ∀ V u, rTP M V → ((j = 0 ∧ x2 = kI (-1) ∧ ∃ w V0 V1, (∀ a j, 188 ≤ a → a < 230 → pScr a j = false → V0 a j = V a j) ∧ D_118 p1 (kI 0) V0 w V1 ∧ (rTP M V → rTP M V0) ∧ rFit p1 3 1 (kI 0) w V1 u) ∨ (1 ≤ j ∧ ¬ x2 = kI (-1) ∧ rFit p1 (4 - j) j x2 x3 V u)) → v = u
theorem L_24_v {p1 x2 x3 x4 : Int32} {kp : Nat} (hp1 : p1.toInt = kp) (hkp : kp < 4) {M : pMem} {v : Int32} {N : pMem} (h : L_24_3 p1 x2 x3 x4 M v N) : fitQ p1 x2 x3 x4 M v N := by
  refine h (fitQ p1) ?_
  intro x2 x3 x4 M v N hs j hx hj V u hP hr
  rcases hs with ⟨g, hv, _⟩ | ⟨g, _, c4, _, X, h208, hs⟩
  · rw [i_le, hx, kI_toInt (by decide) (by decide)] at g
    have e : j = 4 := by omega
    rcases hr with ⟨q, _⟩ | ⟨_, _, hr⟩
    · omega
    · rw [e] at hr
      have hu : u = x2 := hr
      rw [hv, hu]
  · rw [i_le, hx, kI_toInt (by decide) (by decide)] at g
    rw [ix_of hp1, ix_of hx] at h208
    have ex : x4 = kI (j : Nat) := kI_inj hx
    have n1 : (x4 + kI 1).toInt = ((j + 1 : Nat) : Int) := n_add1 hx (by omega)
    have hP2 : rTP X V := rTP_c (pln_pK hkp) (law_pK (by omega)) h208 hP
    have ne : ¬ x4 = kI (-1) := fun q => by rw [q, kI_toInt (by decide) (by decide)] at hx; omega
    rcases hr with ⟨ej, e2, w, V0, V1, hV0, h118, hP0, hr⟩ | ⟨j1, e2, hr⟩
    · subst ej
      have eo : X 138 3 = w := off_v (x := 0) hkp (by decide) hP hp1 rfl h208 hV0 h118
      have e0 : x4 = kI 0 := kI_inj hx
      rcases hs with ⟨_, hs⟩ | ⟨g2, _⟩
      · refine hs 1 n1 (by decide) V1 u (rTP_r h118 ?_) (Or.inr ⟨Nat.le_refl _, ne, ?_⟩)
        · exact rTP_c (pln_pK hkp) (law_pK (by omega)) h208 (hP0 hP)
        · rw [eo, e0]
          exact hr
      · exact absurd e2 g2
    · rw [show 4 - j = (4 - (j + 1)) + 1 by omega] at hr
      obtain ⟨w, V1, h118, hr⟩ := hr
      have eo : X 138 3 = w := off_v (x := 0) hkp (by omega) hP hp1 (by rw [kI_toInt (by omega) (by omega)]) h208 (fun _ _ _ _ _ => rfl) h118
      have hP3 := rTP_r h118 hP2
      rcases hs with ⟨g2, _⟩ | ⟨_, hs⟩
      · exact absurd g2 e2
      · rcases hs with ⟨g3, hs⟩ | ⟨g3, hs⟩
        · rcases hr with ⟨g4, _⟩ | ⟨_, hr⟩
          · rw [i_le, eo] at g3
            rw [i_lt] at g4
            omega
          · exact hs (j + 1) n1 (by omega) V1 u hP3 (Or.inr ⟨by omega, e2, hr⟩)
        · rcases hr with ⟨_, hr⟩ | ⟨g4, _⟩
          · refine hs (j + 1) n1 (by omega) V1 u hP3 (Or.inr ⟨by omega, ne, ?_⟩)
            rw [eo, ex]
            exact hr
          · rw [i_le, eo] at g3
            rw [i_lt] at g4
            omega
theorem op_fitting_v {p1 v u : Int32} {M M1 M2 : pMem} (h : rF M) (h1 : D_24 p1 M v M1) (h2 : D_120 p1 M1 u M2) : v = u := by
  have hP := rF_TP h
  have f24 := F_24 h1
  have c8 := fr_188 f24 (by decide +kernel)
  obtain ⟨R0, e0, h2⟩ := h2
  by_cases g1 : 0 ≤ p1.toInt ∧ p1.toInt < 4
  · have h1 := tIf_p (f_33_iff.mpr g1) h1
    have h2 := tIf_p (f_109_iff.mpr g1) h2
    obtain ⟨kp, hkp⟩ : ∃ k : Nat, p1.toInt = k := ⟨p1.toInt.toNat, by omega⟩
    obtain ⟨w, R1, h118, h2⟩ := h2
    have hr := L_120_v h2 1 rfl (by decide)
    have q0 : ∀ a j, 188 ≤ a → a < 230 → pScr a j = false → R0 a j = M a j := fun a j q1 q2 q3 => by rw [e0, p0_sc a j q1 q2 q3]; exact c8 a j q1 q2 q3
    have hP0 : rTP M M → rTP M R0 := fun hh => by
      refine ⟨rT_mv hh.1 cp_r (agT_of fun a j hp => ?_), fun k hk => ?_⟩
      · rcases plT_in hp with e | ⟨e, e2⟩
        · obtain ⟨d1, d2, d3⟩ := plRows_sc a e
          exact q0 a j (by unfold plT at hp; omega) d1 (pScr_of d2 d3 j)
        · subst e
          exact q0 188 j (by decide) (by decide) (pl188_sc j e2)
      · have c : ∀ a j, a = 213 ∨ a = 214 ∨ a = 215 → R0 a j = M a j := fun a j ha => q0 a j (by omega) (by omega) (by rcases ha with rfl | rfl | rfl <;> rfl)
        exact rPlan_eq (hh.2 k hk) (c 213 k (by omega)) rfl (fun i => ⟨rfl, rfl, rfl⟩) (fun i _ => ⟨c 214 _ (by omega), c 215 _ (by omega)⟩)
    exact L_24_v hkp (by omega) h1 0 rfl (by decide) M u hP (Or.inl ⟨rfl, rfl, w, R0, R1, q0, h118, hP0, hr⟩)
  · have h1 := tIf_n (fun q => g1 (f_33_iff.mp q)) h1
    have h2 := tIf_n (fun q => g1 (f_109_iff.mp q)) h2
    rw [h1.1, h2.1]
/-! least, back: days of one kind in thought, on both sides -/
/-- the reference's days apart, then against, till there is a fight -/
def rAp : Nat → pMem → pMem → Prop
  | 0, V, U => U = V
  | n + 1, V, U => ∃ u V1, D_101 (kI 0) (kI 0) (kI (-1)) V u V1 ∧ rAp n V1 U
def rFig : Nat → Nat → pMem → Int32 → Prop
  | 0, _, _, v => v = kI (-1)
  | r + 1, n, V, v => ∃ u V1, D_101 (kI 1) (kI 5) (kI (-1)) V u V1 ∧ ((V1 188 54 = 0 ∧ rFig r (n + 1) V1 v) ∨ (¬ V1 188 54 = 0 ∧ v = kI (n : Nat)))
theorem L_111_v {p1 p2 x : Int32} {q : Nat} (hq : p2.toInt = q) (hq9 : q ≤ 9) {V : pMem} {v : Int32} {N : pMem} (h : L_111_4 p1 p2 x V v N) : ∀ i : Nat, x.toInt = i → i ≤ q → ∃ U, rAp (q - i) V U ∧ rFig 20 1 U v := by
  refine h (fun x V v N => ∀ i : Nat, x.toInt = i → i ≤ q → ∃ U, rAp (q - i) V U ∧ rFig 20 1 U v,
    fun x y V v N => ∀ n : Nat, y.toInt = n → 1 ≤ n → n ≤ 21 → (¬ x = kI (-1) → v = x) ∧ (x = kI (-1) → rFig (21 - n) n V v)) ⟨?_, ?_⟩
  · intro x V v N hs i hx hi
    rcases hs with ⟨g, hs⟩ | ⟨g, u, V1, h101, hs⟩
    · rw [i_le, hq, hx] at g
      rw [show q - i = 0 by omega]
      exact ⟨V, rfl, (hs 1 rfl (by decide) (by decide)).2 rfl⟩
    · rw [i_le, hq, hx] at g
      obtain ⟨U, r1, r2⟩ := hs (i + 1) (n_add1 hx (by omega)) (by omega)
      rw [show q - i = q - (i + 1) + 1 by omega]
      exact ⟨U, ⟨u, V1, h101, r1⟩, r2⟩
  · intro x y V v N hs n hy h1 h21
    rcases hs with ⟨g, _, M1, _, hv, _⟩ | ⟨g, hs⟩
    · rw [i_lt, hy, kI_toInt (by decide) (by decide)] at g
      have e : n = 21 := by omega
      rw [e]
      exact ⟨fun _ => hv, fun q => (hv.trans q : v = kI (-1))⟩
    · rw [i_lt, hy, kI_toInt (by decide) (by decide)] at g
      rcases hs with ⟨g2, _, M1, _, hv, _⟩ | ⟨g2, u, V1, h101, hs⟩
      · exact ⟨fun _ => hv, fun q => absurd q g2⟩
      · refine ⟨fun q => absurd q g2, fun q => ?_⟩
        have n1 : (y + kI 1).toInt = ((n + 1 : Nat) : Int) := n_add1 hy (by omega)
        rw [show 21 - n = 21 - (n + 1) + 1 by omega]
        rcases hs with ⟨g3, hs⟩ | ⟨g3, hs⟩
        · exact ⟨u, V1, h101, Or.inl ⟨g3, (hs (n + 1) n1 (by omega) (by omega)).2 q⟩⟩
        · have ne : ¬ y = kI (-1) := fun e => by rw [e, kI_toInt (by decide) (by decide)] at hy; omega
          exact ⟨u, V1, h101, Or.inr ⟨g3, ((hs (n + 1) n1 (by omega) (by omega)).1 ne).trans (kI_inj hy)⟩⟩
def lQ9 (kl k q : Nat) (o : List Cd) (L : List Ln) (x : Int32) (M : pMem) (v : Int32) (_ : pMem) : Prop := ∀ i : Nat, x.toInt = i → i ≤ q → ∀ V U u, rTg (30 + 11 * kl) k o L M V → (0 ≤ (V 188 3).toInt ∧ (V 188 3).toInt ≤ 60 + (i : Int)) → rAp (q - i) V U → rFig 20 1 U u → v = u
def lQ9b (kl k : Nat) (o : List Cd) (L : List Ln) (x : Int32) (M : pMem) (v : Int32) (_ : pMem) : Prop := ∀ n : Nat, x.toInt = n → 1 ≤ n → n ≤ 21 → ∀ V u, rTg (30 + 11 * kl) k o L M V → (0 ≤ (V 188 3).toInt ∧ (V 188 3).toInt ≤ 70 + (n : Int)) → rFig (21 - n) n V u → v = u
theorem L_209_v {kl k q : Nat} (hkl : kl < 4) {p3 x : Int32} (hq : p3.toInt = q) (hq9 : q ≤ 9) {o : List Cd} {L : List Ln} {M : pMem} {v : Int32} {N : pMem} (h : L_209_1 (30 + 11 * kl) p3 x M v N) : lQ9 kl k q o L x M v N := by
  refine h (lQ9 kl k q o L, lQ9b kl k o L) ⟨?_, ?_⟩
  · intro x M v N hs i hx hi V U u hg hd hA hF
    rcases hs with ⟨g, hs⟩ | ⟨g, v1, M1, h138, hs⟩
    · rw [i_le, hq, hx] at g
      rw [show q - i = 0 by omega] at hA
      have e : U = V := hA
      rw [e] at hF
      exact hs 1 rfl (by decide) (by decide) V u hg ⟨hd.1, by omega⟩ hF
    · rw [i_le, hq, hx] at g
      rw [show q - i = q - (i + 1) + 1 by omega] at hA
      obtain ⟨w, V1, h101, hA⟩ := hA
      obtain ⟨g1, _, d3, _⟩ := day_tg (law_pK hkl) hg ⟨hd.1, by omega⟩ h138 h101
      have n3 : (V1 188 3).toInt = (V 188 3).toInt + 1 := by rw [d3, i_add1 (by omega)]
      exact hs (i + 1) (n_add1 hx (by omega)) (by omega) V1 U u g1 ⟨by omega, by omega⟩ hA hF
  · intro x M v N hs n hx h1 h21 V u hg hd hF
    rcases hs with ⟨g, hv, _⟩ | ⟨g, v1, M1, h138, hs⟩
    · rw [i_lt, hx, kI_toInt (by decide) (by decide)] at g
      rw [show 21 - n = 0 by omega] at hF
      have e : u = kI (-1) := hF
      rw [hv, e]
    · rw [i_lt, hx, kI_toInt (by decide) (by decide)] at g
      rw [show 21 - n = 21 - (n + 1) + 1 by omega] at hF
      obtain ⟨w, V1, h101, hF⟩ := hF
      obtain ⟨g1, ev, d3, _, _, _, _, _, c4⟩ := day_tg (law_pK hkl) hg ⟨hd.1, by omega⟩ h138 h101
      have n3 : (V1 188 3).toInt = (V 188 3).toInt + 1 := by rw [d3, i_add1 (by omega)]
      rcases hs with ⟨g2, hs⟩ | ⟨g2, hv, _⟩
      · rw [ev] at g2
        rcases hF with ⟨_, hF⟩ | ⟨g3, _⟩
        · exact hs (n + 1) (n_add1 hx (by omega)) (by omega) (by omega) V1 u g1 ⟨by omega, by omega⟩ hF
        · exact absurd (c4.mp g2) g3
      · rw [ev] at g2
        rcases hF with ⟨g3, _⟩ | ⟨_, hu⟩
        · exact absurd (c4.mpr g3) g2
        · rw [hv, hu]
          exact kI_inj hx
theorem op_least_v {p1 p2 v u : Int32} {M M1 M2 : pMem} (h : rF M) (h1 : D_18 p1 p2 M v M1) (h2 : D_111 p1 p2 M1 u M2) : v = u := by
  have c8 := fr_188 (F_18 h1) (by decide +kernel)
  obtain ⟨R0, e0, h2⟩ := h2
  have k9 : (kI 9).toInt = 9 := kI_toInt (by decide) (by decide)
  by_cases g1 : 0 ≤ p1.toInt ∧ p1.toInt < 4
  · have h1 := tIf_n (f_33_iff.mpr g1) h1
    have h2 := tIf_n (f_109_iff.mpr g1) h2
    obtain ⟨kl, hkl⟩ : ∃ k : Nat, p1.toInt = k := ⟨p1.toInt.toNat, by omega⟩
    by_cases g2 : 0 ≤ p2.toInt ∧ p2.toInt ≤ 9
    · have h1 := tIf_n (show ¬ p2 < 0 by rw [i_lt, i_0]; omega) h1
      have h1 := tIf_p (show p2 ≤ kI 9 by rw [i_le, k9]; omega) h1
      have h2 := tIf_p (f_42_iff.mpr ⟨by rw [i_le, kI_toInt (by decide) (by decide)]; exact g2.1, by rw [i_le, k9]; exact g2.2⟩) h2
      obtain ⟨q, hq⟩ : ∃ k : Nat, p2.toInt = k := ⟨p2.toInt.toNat, by omega⟩
      obtain ⟨_, v1, X, h209, hv, _⟩ := h1
      rw [ix_of hkl] at h209
      obtain ⟨_, X1, h207, h209⟩ := h209
      obtain ⟨_, R2, h108, R3, e3, h2⟩ := h2
      have hB := thB_of (x := kI 0) hkl (Or.inr e0) h108 c8
      rw [← e3] at hB
      obtain ⟨o, L, hg, _⟩ := th_start (by omega) h.2.1 hB h207
      obtain ⟨U, r1, r2⟩ := L_111_v hq (by omega) h2 0 rfl (Nat.zero_le _)
      have d3 : R3 188 3 = M 188 3 := (thB_V hB).1.2.2.1
      have dd := h.2.1.1.2.2
      rw [hv]
      exact L_209_v (by omega) hq (by omega) h209 0 rfl (Nat.zero_le _) R3 U u hg (by rw [d3]; exact ⟨dd.1, by have := dd.2; omega⟩) r1 r2
    · have h2 := tIf_n (fun q => g2 (by
        obtain ⟨q1, q2⟩ := f_42_iff.mp q
        rw [i_le, kI_toInt (by decide) (by decide)] at q1
        rw [i_le, k9] at q2
        exact ⟨q1, q2⟩)) h2
      rcases h1 with ⟨_, hv, _⟩ | ⟨g3, h1⟩
      · rw [hv, h2.1]
      · rcases h1 with ⟨g4, _⟩ | ⟨_, hv, _⟩
        · rw [i_lt, i_0] at g3
          rw [i_le, k9] at g4
          exact absurd ⟨by omega, g4⟩ g2
        · rw [hv, h2.1]
  · have h1 := tIf_p (Classical.not_not.mp fun q => g1 (f_33_iff.mp q)) h1
    have h2 := tIf_p (Classical.not_not.mp fun q => g1 (f_109_iff.mp q)) h2
    rw [h1.1, h2.1]
/-! back -/
/-- the reference's days together: r are left, n went by -/
def rBk : Nat → Nat → pMem → Int32 → Prop
  | 0, n, V, v => ∃ w V1, D_55 V w V1 ∧ ((w < 0 ∧ v = kI (-1)) ∨ (¬ w < 0 ∧ v = kI (n : Nat)))
  | r + 1, n, V, v => ∃ w V1, D_55 V w V1 ∧ ((0 ≤ w ∧ ∃ w2 V2, D_55 V1 w2 V2 ∧ ((w2 < 0 ∧ v = kI (-1)) ∨ (¬ w2 < 0 ∧ v = kI (n : Nat)))) ∨
      (¬ 0 ≤ w ∧ ∃ u V2, D_101 (kI 3) (kI 0) (kI (-1)) V1 u V2 ∧ rBk r (n + 1) V2 v))
theorem L_112_v {p1 x : Int32} {V : pMem} {v : Int32} {N : pMem} (h : L_112_3 p1 x V v N) : ∀ n : Nat, x.toInt = n → n ≤ 30 → rBk (30 - n) n V v := by
  refine h (fun x V v N => ∀ n : Nat, x.toInt = n → n ≤ 30 → rBk (30 - n) n V v) ?_
  intro x V v N hs n hx hn
  have ex : x = kI (n : Nat) := kI_inj hx
  rcases hs with ⟨g, w, V1, h55, hs⟩ | ⟨g, w, V1, h55, hs⟩
  · rw [i_le, hx, kI_toInt (by decide) (by decide)] at g
    rw [show 30 - n = 0 by omega]
    refine ⟨w, V1, h55, ?_⟩
    rcases hs with ⟨g2, _, _, _, hv, _⟩ | ⟨g2, _, _, _, hv, _⟩
    · exact Or.inl ⟨g2, hv⟩
    · exact Or.inr ⟨g2, hv.trans ex⟩
  · rw [i_le, hx, kI_toInt (by decide) (by decide)] at g
    rw [show 30 - n = 30 - (n + 1) + 1 by omega]
    refine ⟨w, V1, h55, ?_⟩
    rcases hs with ⟨g2, w2, V2, h55b, hs⟩ | ⟨g2, u, V2, h101, hs⟩
    · refine Or.inl ⟨g2, w2, V2, h55b, ?_⟩
      rcases hs with ⟨g3, _, _, _, hv, _⟩ | ⟨g3, _, _, _, hv, _⟩
      · exact Or.inl ⟨g3, hv⟩
      · exact Or.inr ⟨g3, hv.trans ex⟩
    · exact Or.inr ⟨g2, u, V2, h101, hs (n + 1) (n_add1 hx (by omega)) (by omega)⟩
def lQ10 (kl k : Nat) (d0 : Int32) (o : List Cd) (L : List Ln) (x : Int32) (M : pMem) (v : Int32) (_ : pMem) : Prop := ∀ n : Nat, x.toInt = n → n ≤ 30 → ∀ V u, rTg (30 + 11 * kl) k o L M V → (0 ≤ (V 188 3).toInt ∧ (V 188 3).toInt ≤ 60 + (n : Int)) → V 188 3 = d0 + kI (n : Nat) → M 19 4 = d0 → rBk (30 - n) n V u → v = u
theorem lt_le0 {w : Int32} : w < 0 ↔ ¬ 0 ≤ w := by
  rw [i_lt, i_le, i_0]
  omega
theorem L_210_v {kl k : Nat} (hkl : kl < 4) {x d0 : Int32} {o : List Cd} {L : List Ln} {M : pMem} {v : Int32} {N : pMem} (h : L_210_1 (30 + 11 * kl) x M v N) : lQ10 kl k d0 o L x M v N := by
  refine h (lQ10 kl k d0 o L) ?_
  intro x M v N hs n hx hn V u hg hd h3 h19 hB
  have e4 : M 143 4 = V 188 3 := hg.2.1.2.2.2.2.1.1
  have ed : V 188 3 - d0 = kI (n : Nat) := by rw [h3]; exact i_asc
  rcases hs with ⟨g, v1, M1, h230, hs⟩ | ⟨g, v1, M1, h230, hs⟩
  · rw [i_le, hx, kI_toInt (by decide) (by decide)] at g
    rw [show 30 - n = 0 by omega] at hB
    obtain ⟨w, V1, h55, hB⟩ := hB
    obtain ⟨z1, z2, z3⟩ := cross_tg hg.1 hg.2.1 h230 h55
    rw [z1, z2] at hs
    rcases hs with ⟨g2, hv, _⟩ | ⟨g2, hv, _⟩
    · rcases hB with ⟨g3, _⟩ | ⟨_, hu⟩
      · exact absurd g2 (lt_le0.mp g3)
      · rw [hv, hu, e4, h19, ed]
    · rcases hB with ⟨_, hu⟩ | ⟨g3, _⟩
      · rw [hv, hu]
      · exact absurd (lt_le0.mpr g2) g3
  · rw [i_le, hx, kI_toInt (by decide) (by decide)] at g
    rw [show 30 - n = 30 - (n + 1) + 1 by omega] at hB
    obtain ⟨w, V1, h55, hB⟩ := hB
    obtain ⟨z1, z2, z3⟩ := cross_tg hg.1 hg.2.1 h230 h55
    rw [z1, z2] at hs
    rw [z3] at hB
    rcases hs with ⟨g2, v2, M2, h230b, hs⟩ | ⟨g2, v2, M2, h138, hs⟩
    · rcases hB with ⟨_, w2, V2, h55b, hB⟩ | ⟨g3, _⟩
      · obtain ⟨y1, y2, y3⟩ := cross_tg hg.1 hg.2.1 h230b h55b
        rw [y1, y2] at hs
        rcases hs with ⟨g4, hv, _⟩ | ⟨g4, hv, _⟩
        · rcases hB with ⟨g5, _⟩ | ⟨_, hu⟩
          · exact absurd g4 (lt_le0.mp g5)
          · rw [hv, hu, e4, h19, ed]
        · rcases hB with ⟨_, hu⟩ | ⟨g5, _⟩
          · rw [hv, hu]
          · exact absurd (lt_le0.mpr g4) g5
      · exact absurd g2 g3
    · rcases hB with ⟨g3, _⟩ | ⟨_, u1, V2, h101, hB⟩
      · exact absurd g3 g2
      · obtain ⟨g1, _, d3, fr, _⟩ := day_tg (law_pK hkl) hg ⟨hd.1, by omega⟩ h138 h101
        have n3 : (V2 188 3).toInt = (V 188 3).toInt + 1 := by rw [d3, i_add1 (by omega)]
        have m19 : M2 19 = M 19 := fr 19 (fun j hj => by omega) (by decide) (by omega)
        refine hs (n + 1) (n_add1 hx (by omega)) (by omega) V2 u g1 ⟨by omega, by omega⟩ ?_ (by rw [m19]; exact h19) hB
        have e1 : kI ((n + 1 : Nat) : Int) = kI (n : Nat) + kI 1 := kI_n1
        rw [d3, h3, e1, Int32.add_assoc]
theorem op_back_v {p1 v u : Int32} {M M1 M2 : pMem} (h : rF M) (h1 : D_19 p1 M v M1) (h2 : D_112 p1 M1 u M2) : v = u := by
  have c8 := fr_188 (F_19 h1) (by decide +kernel)
  obtain ⟨R0, e0, h2⟩ := h2
  by_cases g1 : 0 ≤ p1.toInt ∧ p1.toInt < 4
  · have h1 := tIf_n (f_33_iff.mpr g1) h1
    have h2 := tIf_p (f_109_iff.mpr g1) h2
    obtain ⟨kl, hkl⟩ : ∃ k : Nat, p1.toInt = k := ⟨p1.toInt.toNat, by omega⟩
    obtain ⟨_, v1, X, h210, hv, _⟩ := h1
    rw [ix_of hkl] at h210
    obtain ⟨_, X1, h207, h210⟩ := h210
    obtain ⟨_, R2, h108, R3, e3, h2⟩ := h2
    have hB := thB_of (x := kI 0) hkl (Or.inr e0) h108 c8
    rw [← e3] at hB
    obtain ⟨o, L, hg, hX1⟩ := th_start (by omega) h.2.1 hB h207
    have r := L_112_v h2 0 rfl (Nat.zero_le _)
    have d3 : R3 188 3 = M 188 3 := (thB_V hB).1.2.2.1
    have dd := h.2.1.1.2.2
    have e19 : M 19 4 = M 188 3 := h.2.1.2.1.1.2.2.2.2.1.1
    rw [hv]
    refine L_210_v (d0 := M 188 3) (by omega) h210 0 rfl (Nat.zero_le _) R3 u hg (by rw [d3]; exact ⟨dd.1, by have := dd.2; omega⟩) ?_ (by rw [hX1 19 (by decide)]; exact e19) r
    rw [d3]
    exact (Int32.add_zero _).symm
  · have h1 := tIf_p (Classical.not_not.mp fun q => g1 (f_33_iff.mp q)) h1
    have h2 := tIf_n (fun q => g1 (f_109_iff.mp q)) h2
    rw [h1.1, h2.1]
/-! ways to choose boys: so many, of such a sum -/
def nS (f : Nat → Nat) : Nat → Nat
  | 0 => 0
  | n + 1 => nS f n + f n
theorem nS_cg {f g : Nat → Nat} : ∀ {n : Nat}, (∀ i, i < n → f i = g i) → nS f n = nS g n
  | 0, _ => rfl
  | n + 1, h => by
    show nS f n + f n = nS g n + g n
    rw [nS_cg (n := n) (fun i hi => h i (by omega)), h n (by omega)]
theorem nS_0 {f : Nat → Nat} : ∀ {n : Nat}, (∀ i, i < n → f i = 0) → nS f n = 0
  | 0, _ => rfl
  | n + 1, h => by
    show nS f n + f n = 0
    rw [nS_0 (n := n) (fun i hi => h i (by omega)), h n (by omega)]
theorem nS_add {f g : Nat → Nat} : ∀ {n : Nat}, nS (fun i => f i + g i) n = nS f n + nS g n
  | 0 => rfl
  | n + 1 => by
    show nS (fun i => f i + g i) n + (f n + g n) = nS f n + f n + (nS g n + g n)
    rw [nS_add]
    omega
theorem nS_front {f : Nat → Nat} : ∀ {n : Nat}, nS f (n + 1) = f 0 + nS (fun i => f (i + 1)) n
  | 0 => by
    show 0 + f 0 = f 0 + 0
    omega
  | n + 1 => by
    show nS f (n + 1) + f (n + 1) = f 0 + (nS (fun i => f (i + 1)) n + f (n + 1))
    rw [nS_front (n := n)]
    omega
theorem nS_tl {f : Nat → Nat} {m : Nat} : ∀ {n : Nat}, m ≤ n → (∀ i, m ≤ i → i < n → f i = 0) → nS f n = nS f m
  | 0, h, _ => by rw [show m = 0 by omega]
  | n + 1, h, z => by
    by_cases e : m = n + 1
    · rw [e]
    · show nS f n + f n = nS f m
      rw [z n (by omega) (by omega)]
      exact nS_tl (n := n) (by omega) (fun i h1 h2 => z i h1 (by omega))
/-- from own on -/
def nF (f : Nat → Nat) (own : Nat) (m : Nat) : Nat := nS (fun s => if own ≤ s then f s else 0) m
theorem nF_s {f : Nat → Nat} {own m : Nat} : nF f own (m + 1) = nF f own m + (if own ≤ m then f m else 0) := rfl
theorem nS_cut {f : Nat → Nat} {own : Nat} : ∀ {m : Nat}, own ≤ m → nS f m = nS f own + nF f own m
  | 0, h => by
    rw [show own = 0 by omega]
    rfl
  | m + 1, h => by
    rw [nF_s]
    by_cases e : own = m + 1
    · have z : nF f own m = 0 := nS_0 fun i hi => if_neg (by omega)
      have e' : nS f own = nS f (m + 1) := by rw [e]
      rw [z, if_neg (by omega)]
      omega
    · have ih := nS_cut (f := f) (own := own) (m := m) (by omega)
      rw [if_pos (by omega)]
      show nS f m + f m = _
      rw [ih]
      omega
theorem nS_shift {g : Nat → Nat} {x : Nat} : ∀ {m : Nat}, nS (fun s => if x ≤ s then g (s - x) else 0) (x + m) = nS g m
  | 0 => nS_0 fun i hi => if_neg (by omega)
  | m + 1 => by
    show nS (fun s => if x ≤ s then g (s - x) else 0) (x + m) + (if x ≤ x + m then g (x + m - x) else 0) = nS g m + g m
    rw [nS_shift, if_pos (by omega), show x + m - x = m by omega]
theorem nF_off {f : Nat → Nat} {own : Nat} : ∀ {m : Nat}, nF f own (own + m) = nS (fun j => f (own + j)) m
  | 0 => nS_0 fun i hi => if_neg (by omega)
  | m + 1 => by
    show nF f own (own + m) + (if own ≤ own + m then f (own + m) else 0) = nS (fun j => f (own + j)) m + f (own + m)
    rw [nF_off, if_pos (by omega)]
theorem nS_rev {f : Nat → Nat} : ∀ {m : Nat}, nS (fun s => f (m - s)) (m + 1) = nS f (m + 1)
  | 0 => rfl
  | m + 1 => by
    rw [nS_front]
    have e : nS (fun i => f (m + 1 - (i + 1))) (m + 1) = nS (fun s => f (m - s)) (m + 1) := nS_cg fun i _ => by rw [show m + 1 - (i + 1) = m - i by omega]
    rw [e, nS_rev (m := m)]
    show f (m + 1) + nS f (m + 1) = nS f (m + 1) + f (m + 1)
    omega
/-- of the first i: in how many ways c of them have the sum s -/
def wyB (T : Nat → Bool) (X : Nat → Nat) : Nat → Nat → Nat → Nat
  | 0, c, s => if c = 0 ∧ s = 0 then 1 else 0
  | i + 1, c, s => wyB T X i c s + (if T i = true ∧ 1 ≤ c ∧ X i ≤ s then wyB T X i (c - 1) (s - X i) else 0)
def smT (T : Nat → Bool) (X : Nat → Nat) : Nat → Nat
  | 0 => 0
  | i + 1 => smT T X i + (if T i = true then X i else 0)
section WB
variable {T : Nat → Bool} {X : Nat → Nat}
theorem cN_s {i : Nat} : cN T (i + 1) = cN T i + (if T i = true then 1 else 0) := rfl
theorem smT_s {i : Nat} : smT T X (i + 1) = smT T X i + (if T i = true then X i else 0) := rfl
theorem wy_s {i c s : Nat} : wyB T X (i + 1) c s = wyB T X i c s + (if T i = true ∧ 1 ≤ c ∧ X i ≤ s then wyB T X i (c - 1) (s - X i) else 0) := rfl
theorem wy_0 : ∀ {i c s : Nat}, (cN T i < c ∨ smT T X i < s) → wyB T X i c s = 0 := by
  intro i
  induction i with
  | zero =>
    intro c s h
    have h : 0 < c ∨ 0 < s := h
    exact if_neg (by omega)
  | succ i ih =>
    intro c s h
    rw [cN_s, smT_s] at h
    rw [wy_s]
    by_cases t : T i = true
    · rw [if_pos t, if_pos t] at h
      rw [ih (by omega)]
      by_cases d : 1 ≤ c ∧ X i ≤ s
      · rw [if_pos ⟨t, d.1, d.2⟩, ih (by omega)]
      · rw [if_neg (fun q => d ⟨q.2.1, q.2.2⟩)]
    · rw [if_neg t, if_neg t] at h
      rw [if_neg (fun q => t q.1), ih (by omega)]
theorem wy_sym : ∀ {i c d s u : Nat}, c + d = cN T i → s + u = smT T X i → wyB T X i c s = wyB T X i d u := by
  intro i
  induction i with
  | zero =>
    intro c d s u h1 h2
    have h1 : c + d = 0 := h1
    have h2 : s + u = 0 := h2
    rw [show c = 0 by omega, show d = 0 by omega, show s = 0 by omega, show u = 0 by omega]
  | succ i ih =>
    intro c d s u h1 h2
    rw [cN_s] at h1
    rw [smT_s] at h2
    rw [wy_s, wy_s]
    by_cases t : T i = true
    · rw [if_pos t] at h1 h2
      have A : wyB T X i c s = (if T i = true ∧ 1 ≤ d ∧ X i ≤ u then wyB T X i (d - 1) (u - X i) else 0) := by
        by_cases q : 1 ≤ d ∧ X i ≤ u
        · rw [if_pos ⟨t, q.1, q.2⟩]
          exact ih (by omega) (by omega)
        · rw [if_neg (fun z => q ⟨z.2.1, z.2.2⟩)]
          exact wy_0 (by omega)
      have B : (if T i = true ∧ 1 ≤ c ∧ X i ≤ s then wyB T X i (c - 1) (s - X i) else 0) = wyB T X i d u := by
        by_cases q : 1 ≤ c ∧ X i ≤ s
        · rw [if_pos ⟨t, q.1, q.2⟩]
          exact ih (by omega) (by omega)
        · rw [if_neg (fun z => q ⟨z.2.1, z.2.2⟩)]
          exact (wy_0 (by omega)).symm
      rw [A, B]
      exact Nat.add_comm _ _
    · rw [if_neg t] at h1 h2
      rw [if_neg (fun q => t q.1), if_neg (fun q => t q.1), ih (by omega) (by omega)]
theorem wy_tot : ∀ {i c m : Nat}, smT T X i < m → nS (fun s => wyB T X i c s) m = gCh (cN T i) c := by
  intro i
  induction i with
  | zero =>
    intro c m h
    have h : 0 < m := h
    obtain ⟨k, rfl⟩ : ∃ k, m = k + 1 := ⟨m - 1, by omega⟩
    have z : nS (fun i => wyB T X 0 c (i + 1)) k = 0 := nS_0 fun i _ => if_neg (by omega)
    have e : wyB T X 0 c 0 = gCh 0 c := by
      cases c with
      | zero => rfl
      | succ c => exact if_neg (by omega)
    have q := nS_front (f := fun s => wyB T X 0 c s) (n := k)
    exact q.trans ((congrArg (wyB T X 0 c 0 + ·) z).trans e)
  | succ i ih =>
    intro c m h
    rw [smT_s] at h
    rw [cN_s]
    show nS (fun s => wyB T X i c s + (if T i = true ∧ 1 ≤ c ∧ X i ≤ s then wyB T X i (c - 1) (s - X i) else 0)) m = _
    rw [nS_add (f := fun s => wyB T X i c s) (g := fun s => if T i = true ∧ 1 ≤ c ∧ X i ≤ s then wyB T X i (c - 1) (s - X i) else 0), ih (by split at h <;> omega)]
    by_cases t : T i = true
    · rw [if_pos t] at h
      rw [if_pos t]
      cases c with
      | zero =>
        have z : nS (fun s => if T i = true ∧ 1 ≤ 0 ∧ X i ≤ s then wyB T X i (0 - 1) (s - X i) else 0) m = 0 := nS_0 fun s _ => if_neg fun z => absurd z.2.1 (by decide)
        rw [z, gCh_z]
        exact gCh_z.symm
      | succ c =>
        have e : nS (fun s => if T i = true ∧ 1 ≤ c + 1 ∧ X i ≤ s then wyB T X i (c + 1 - 1) (s - X i) else 0) m = nS (fun s => if X i ≤ s then wyB T X i c (s - X i) else 0) m := nS_cg fun s _ => by
          by_cases q : X i ≤ s
          · rw [if_pos ⟨t, by omega, q⟩, if_pos q]
            rfl
          · rw [if_neg (fun z => q z.2.2), if_neg q]
        have e2 := nS_shift (g := fun s => wyB T X i c s) (x := X i) (m := m - X i)
        rw [show X i + (m - X i) = m by omega] at e2
        rw [e, e2, ih (by omega)]
        show _ = gCh (cN T i) c + gCh (cN T i) (c + 1)
        omega
    · rw [if_neg t] at h
      rw [if_neg t]
      have z : nS (fun s => if T i = true ∧ 1 ≤ c ∧ X i ≤ s then wyB T X i (c - 1) (s - X i) else 0) m = 0 := nS_0 fun s _ => if_neg fun z => t z.1
      exact congrArg (gCh (cN T i) c + ·) z
/-- the ways as great, either way -/
theorem wy_low {a b own oth m : Nat} (h1 : a + b = cN T 24) (h2 : own + oth = smT T X 24) (hm : own + oth < m) : nS (fun s => wyB T X 24 b s) (oth + 1) = nF (fun s => wyB T X 24 a s) own m := by
  have e1 : nF (fun s => wyB T X 24 a s) own m = nF (fun s => wyB T X 24 a s) own (own + (oth + 1)) := nS_tl (by omega) fun s q1 q2 => by
    show (if own ≤ s then wyB T X 24 a s else 0) = 0
    rw [if_pos (by omega)]
    exact wy_0 (Or.inr (by omega))
  have e2 : nS (fun s => wyB T X 24 b s) (oth + 1) = nS (fun s => (fun j => wyB T X 24 a (own + j)) (oth - s)) (oth + 1) := nS_cg fun s hs => wy_sym (by omega) (by omega)
  rw [e1, nF_off]
  exact e2.trans (nS_rev (f := fun j => wyB T X 24 a (own + j)) (m := oth))
theorem smT_le {B : Nat} (h : ∀ i, i < 24 → X i ≤ B) : ∀ {n : Nat}, n ≤ 24 → smT T X n ≤ B * cN T n
  | 0, _ => Nat.zero_le _
  | n + 1, hn => by
    rw [smT_s, cN_s, Nat.mul_add]
    have ih := smT_le h (n := n) (by omega)
    have hx := h n (by omega)
    by_cases t : T n = true
    · rw [if_pos t, if_pos t, Nat.mul_one]
      omega
    · rw [if_neg t, if_neg t]
      omega
theorem smT_cg {A : Nat → Bool} : ∀ {n : Nat}, (∀ i, i < n → T i = A i) → smT T X n = smT A X n
  | 0, _ => rfl
  | n + 1, h => by rw [smT_s, smT_s, smT_cg (n := n) (fun i hi => h i (by omega)), h n (by omega)]
theorem smT_ext {n m : Nat} (h : n ≤ m) (hp : ∀ i, n ≤ i → i < m → T i = false) : smT T X m = smT T X n := by
  obtain ⟨d, rfl⟩ := Nat.exists_eq_add_of_le h
  induction d with
  | zero => rfl
  | succ d ih =>
    show smT T X (n + d) + (if T (n + d) = true then X (n + d) else 0) = smT T X n
    rw [ih (by omega) (fun i h1 h2 => hp i h1 (by omega)), hp (n + d) (by omega) (by omega)]
    rfl
theorem wy_ext {n m c s : Nat} (h : n ≤ m) (hp : ∀ i, n ≤ i → i < m → T i = false) : wyB T X m c s = wyB T X n c s := by
  obtain ⟨d, rfl⟩ := Nat.exists_eq_add_of_le h
  induction d with
  | zero => rfl
  | succ d ih =>
    show wyB T X (n + d) c s + (if T (n + d) = true ∧ 1 ≤ c ∧ X (n + d) ≤ s then _ else 0) = wyB T X n c s
    rw [if_neg (fun q => by rw [hp (n + d) (by omega) (by omega)] at q; cases q.1)]
    exact ih (by omega) (fun i h1 h2 => hp i h1 (by omega))
end WB
/-- the sums of two camps -/
theorem smT_two {T A B : Nat → Bool} {X : Nat → Nat} (h : ∀ i, i < 24 → ∀ x : Nat, (if T i = true then x else 0) = (if A i = true then x else 0) + (if B i = true then x else 0)) : ∀ {n : Nat}, n ≤ 24 → smT T X n = smT A X n + smT B X n
  | 0, _ => rfl
  | n + 1, hn => by
    rw [smT_s, smT_s, smT_s, smT_two h (n := n) (by omega), h n (by omega) (X n)]
    exact Nat.add_add_add_comm _ _ _ _
