/-! what is read hangs on the tape's bytes alone -/
section CG
variable {B B' : Nat → Int32} {n : Nat}
theorem xRun_cg (h : ∀ i, i < n → B i = B' i) {f : Int32 → Bool} : ∀ {k p : Nat}, xRun f B n k p = xRun f B' n k p
  | 0, _ => rfl
  | k + 1, p => by
    show (if p < n ∧ f (B p) = true then xRun f B n k (p + 1) else p) = (if p < n ∧ f (B' p) = true then xRun f B' n k (p + 1) else p)
    by_cases q : p < n
    · rw [h p q, xRun_cg h]
    · rw [if_neg (fun e => q e.1), if_neg (fun e => q e.1)]
theorem xEnd_cg (h : ∀ i, i < n → B i = B' i) {f : Int32 → Bool} {p : Nat} : xEnd f B n p = xEnd f B' n p := xRun_cg h
theorem wM_cg (h : ∀ i, i < n → B i = B' i) {p e j : Nat} (he : e ≤ n) : wM B p e j ↔ wM B' p e j := by
  constructor
  · rintro ⟨h1, h2⟩
    exact ⟨h1, fun q hq => by rw [← h (p + q) (by omega)]; exact h2 q hq⟩
  · rintro ⟨h1, h2⟩
    exact ⟨h1, fun q hq => by rw [h (p + q) (by omega)]; exact h2 q hq⟩
theorem xWd_cg (h : ∀ i, i < n → B i = B' i) {p e : Nat} (he : e ≤ n) : xWd B p e = xWd B' p e := by
  have : wB B p e = wB B' p e := by
    funext j
    rw [Bool.eq_iff_iff, wB_t, wB_t]
    exact wM_cg h he
  unfold xWd
  rw [this]
theorem xV_cg (h : ∀ i, i < n → B i = B' i) {p : Nat} : ∀ {k : Nat}, p + k ≤ n → xV B p k = xV B' p k
  | 0, _ => rfl
  | k + 1, hk => by
    show xV B p k * kI 10 + B (p + k) - kI 48 = xV B' p k * kI 10 + B' (p + k) - kI 48
    rw [xV_cg h (by omega), h (p + k) (by omega)]
theorem xNx_cg (h : ∀ i, i < n → B i = B' i) {p : Nat} (hp : p < n) : xNx B n p = xNx B' n p := by
  unfold xNx
  rw [h p hp, xEnd_cg h, xEnd_cg h]
theorem xTk_cg (h : ∀ i, i < n → B i = B' i) {p : Nat} (hp : p < n) : xTk B n p = xTk B' n p := by
  have a := (xEnd_le (f := xLt) (B := B') (n := n) (p := p + 1) rfl).2 (by omega)
  unfold xTk
  rw [h p hp, xEnd_cg h, xEnd_cg h, xWd_cg h a]
theorem xVl_cg (h : ∀ i, i < n → B i = B' i) {p : Nat} (hp : p < n) : xVl B n p = xVl B' n p := by
  have a := xEnd_le (f := xDg) (B := B') (n := n) (p := p + 1) rfl
  have a2 := a.2 (by omega)
  unfold xVl
  rw [h p hp, xEnd_cg h, xV_cg h (by omega)]
theorem xSt_cg (h : ∀ i, i < n → B i = B' i) : ∀ {k : Nat}, xSt B n k = xSt B' n k
  | 0 => xEnd_cg h
  | k + 1 => by
    show (if xSt B n k < n then xSk B n (xNx B n (xSt B n k)) else n) = (if xSt B' n k < n then xSk B' n (xNx B' n (xSt B' n k)) else n)
    rw [xSt_cg h]
    by_cases q : xSt B' n k < n
    · rw [if_pos q, if_pos q, xNx_cg h q]
      exact xEnd_cg h
    · rw [if_neg q, if_neg q]
theorem yT_cg (h : ∀ i, i < n → B i = B' i) : yT B n = yT B' n := by
  funext k
  unfold yT
  rw [xSt_cg h]
  by_cases q : xSt B' n k < n
  · rw [if_pos q, if_pos q, xTk_cg h q]
  · rw [if_neg q, if_neg q]
theorem yV_cg (h : ∀ i, i < n → B i = B' i) : yV B n = yV B' n := by
  funext k
  unfold yV
  rw [xSt_cg h]
  by_cases q : xSt B' n k < n
  · rw [if_pos q, if_pos q, xVl_cg h q]
  · rw [if_neg q, if_neg q]
end CG
/-! four bytes of a number -/
def byC (p : Int32) (q : Nat) : Int32 := pUsr p (kI (24 - 8 * (q : Int))) &&& kI 255
def byR (p : Int32) (q : Nat) : Int32 := (p >>> (kI (24 - 8 * (q : Int)) &&& 31)) &&& kI 255
theorem sh_eq (x : BitVec 32) (s : Nat) (hs : s ≤ 24) : x.ushiftRight s &&& 255#32 = x.sshiftRight s &&& 255#32 := by
  apply BitVec.eq_of_getLsbD_eq
  intro i hi
  rw [BitVec.getLsbD_and, BitVec.getLsbD_and]
  by_cases h : i < 8
  · have e : (x.ushiftRight s).getLsbD i = x.getLsbD (s + i) := BitVec.getLsbD_ushiftRight ..
    rw [e, BitVec.getLsbD_sshiftRight, if_pos (by omega), show decide (32 ≤ i) = false from decide_eq_false (by omega)]
    rfl
  · have c : ∀ i, i < 32 → ¬ i < 8 → (255#32).getLsbD i = false := by decide
    rw [c i hi h, Bool.and_false, Bool.and_false]
theorem by_eq {p : Int32} {q : Nat} (hq : q < 4) : byC p q = byR p q := by
  have h : q = 0 ∨ q = 1 ∨ q = 2 ∨ q = 3 := by omega
  apply Int32.toBitVec_inj.mp
  rcases h with rfl | rfl | rfl | rfl
  · exact sh_eq p.toBitVec 24 (by decide)
  · exact sh_eq p.toBitVec 16 (by decide)
  · exact sh_eq p.toBitVec 8 (by decide)
  · exact sh_eq p.toBitVec 0 (by decide)
theorem by_rg {p : Int32} {q : Nat} : 0 ≤ (byR p q).toInt := by
  unfold byR
  generalize p >>> (kI (24 - 8 * (q : Int)) &&& 31) = y
  have h : (y &&& kI 255).toBitVec.toNat ≤ 255 := by
    show (y.toBitVec &&& 255#32).toNat ≤ 255
    rw [BitVec.toNat_and]
    exact Nat.and_le_right
  show 0 ≤ (y &&& kI 255).toBitVec.toInt
  rw [BitVec.toInt_eq_toNat_of_lt (by omega)]
  omega
/-- what is fed -/
def fd (W W' : Nat → Int32) (n : Nat) (b : Nat → Int32) : Prop := ∀ i, W' i = if n ≤ i ∧ i < n + 4 then b (i - n) else W i
theorem D_194_w {p : Int32} {M0 : pMem} {n : Nat} (hn : n ≤ 496) (h0 : (M0 1 0).toInt = n) {v : Unit} {N : pMem} (h : D_194 p M0 v N) : (N 1 0).toInt = ((n + 4 : Nat) : Int) ∧ fd (M0 2) (N 2) n (byC p) := by
  refine h (fun x M v N => ∀ q : Nat, x = kI (24 - 8 * (q : Int)) → q ≤ 4 → (M 1 0).toInt = ((n + q : Nat) : Int) → (∀ i, M 2 i = if n ≤ i ∧ i < n + q then byC p (i - n) else M0 2 i) → (N 1 0).toInt = ((n + 4 : Nat) : Int) ∧ fd (M0 2) (N 2) n (byC p)) ?_ 0 rfl (by omega) h0 (fun i => by rw [if_neg (by omega)])
  intro x M v N hs q hx hq hl hb
  have xt : x.toInt = 24 - 8 * (q : Int) := by rw [hx, kI_toInt (by omega) (by omega)]
  rcases hs with ⟨g, _, hN⟩ | ⟨g, hs⟩
  · rw [i_lt, xt, i_0] at g
    rw [hN]
    rw [show q = 4 by omega] at hl hb
    exact ⟨hl, hb⟩
  · rw [i_lt, xt, i_0] at g
    have hs := tIf_n (show ¬ M 1 0 < 0 by rw [i_lt, hl, i_0]; omega) hs
    have hs := tIf_n (show ¬ kI 500 ≤ M 1 0 by rw [i_le, hl, kI_toInt (by decide) (by decide)]; omega) hs
    obtain ⟨_, M1, e1, M2, e2, hs⟩ := hs
    rw [ix_of hl] at e1
    have t1 : M1 1 0 = M 1 0 := by rw [e1, aPut_cell (by decide)]
    refine hs (q + 1) ?_ (by omega) ?_ (fun i => ?_)
    · rw [hx, i_eq, i_add (by rw [kI_toInt (by omega) (by omega), kI_toInt (by decide) (by decide)]; omega) (by rw [kI_toInt (by omega) (by omega), kI_toInt (by decide) (by decide)]; omega), kI_toInt (by omega) (by omega), kI_toInt (by decide) (by decide), kI_toInt (by omega) (by omega)]
      omega
    · rw [e2, aPut_same, t1, i_add1 (by omega), hl]
      omega
    · rw [e2, aPut_cell (by decide), e1, aPut_row]
      by_cases c : i = n + q
      · rw [if_pos c, if_pos (by omega), hx, c, show n + q - n = q by omega]
        rfl
      · rw [if_neg c, hb i]
        by_cases d : n ≤ i ∧ i < n + q
        · rw [if_pos d, if_pos (by omega)]
        · rw [if_neg d, if_neg (by omega)]
theorem D_57_w {p : Int32} {M0 : pMem} {n : Nat} (hn : n ≤ 496) (h0 : (M0 188 24).toInt = n) {v : Unit} {N : pMem} (h : D_57 p M0 v N) : (N 188 24).toInt = ((n + 4 : Nat) : Int) ∧ fd (M0 202) (N 202) n (byR p) := by
  refine h (fun x M v N => ∀ q : Nat, x = kI (24 - 8 * (q : Int)) → q ≤ 4 → (M 188 24).toInt = ((n + q : Nat) : Int) → (∀ i, M 202 i = if n ≤ i ∧ i < n + q then byR p (i - n) else M0 202 i) → (N 188 24).toInt = ((n + 4 : Nat) : Int) ∧ fd (M0 202) (N 202) n (byR p)) ?_ 0 rfl (by omega) h0 (fun i => by rw [if_neg (by omega)])
  intro x M v N hs q hx hq hl hb
  have xt : x.toInt = 24 - 8 * (q : Int) := by rw [hx, kI_toInt (by omega) (by omega)]
  rcases hs with ⟨g, _, hN⟩ | ⟨g, _, M1, e1, M2, e2, hs⟩
  · rw [i_lt, xt, i_0] at g
    rw [hN]
    rw [show q = 4 by omega] at hl hb
    exact ⟨hl, hb⟩
  · rw [i_lt, xt, i_0] at g
    rw [ix_of hl] at e1
    have t1 : M1 188 24 = M 188 24 := by rw [e1, aPut_cell (by decide)]
    refine hs (q + 1) ?_ (by omega) ?_ (fun i => ?_)
    · rw [hx, i_eq, i_add (by rw [kI_toInt (by omega) (by omega), kI_toInt (by decide) (by decide)]; omega) (by rw [kI_toInt (by omega) (by omega), kI_toInt (by decide) (by decide)]; omega), kI_toInt (by omega) (by omega), kI_toInt (by decide) (by decide), kI_toInt (by omega) (by omega)]
      omega
    · rw [e2, aPut_same, t1, i_add1 (by omega), hl]
      omega
    · rw [e2, aPut_cell (by decide), e1, aPut_row]
      by_cases c : i = n + q
      · rw [if_pos c, if_pos (by omega), hx, c, show n + q - n = q by omega]
        rfl
      · rw [if_neg c, hb i]
        by_cases d : n ≤ i ∧ i < n + q
        · rw [if_pos d, if_pos (by omega)]
        · rw [if_neg d, if_neg (by omega)]
/-- both are fed alike -/
theorem fd_both {C C' R R' : Nat → Int32} {n : Nat} {p : Int32} (hn : n ≤ 496) (h1 : fd C C' n (byC p)) (h2 : fd R R' n (byR p)) (e : ∀ i, i < 500 → C i = R i) (z : ∀ i, i < 500 → 0 ≤ (R i).toInt) : (∀ i, i < 500 → C' i = R' i) ∧ ∀ i, i < 500 → 0 ≤ (R' i).toInt := by
  refine ⟨fun i hi => ?_, fun i hi => ?_⟩
  · rw [h1 i, h2 i]
    by_cases c : n ≤ i ∧ i < n + 4
    · rw [if_pos c, if_pos c]
      exact by_eq (by omega)
    · rw [if_neg c, if_neg c]
      exact e i hi
  · rw [h2 i]
    by_cases c : n ≤ i ∧ i < n + 4
    · rw [if_pos c]
      exact by_rg
    · rw [if_neg c]
      exact z i hi
theorem op_feed {p1 p2 p3 p4 p5 v u : Int32} {M M1 M2 : pMem} (h : rA M) (h1 : D_5 p1 p2 p3 p4 p5 M v M1) (h2 : D_58 p1 p2 p3 p4 p5 M1 u M2) : v = u ∧ rA M2 := by
  have f1 := F_5 h1
  have f2 := F_58 h2
  obtain ⟨ht, hr⟩ := h
  obtain ⟨t1, t2, t3, t4, t5, t6⟩ := ht
  have k1 : (kNow l_5 && (kImg l_5 && (kTk l_5 && (kPn l_5 && kPi l_5)))) = true := by decide +kernel
  have k2 : (kNow l_58 && (kImg l_58 && (kTk l_58 && (kPn l_58 && kPi l_58)))) = true := by decide +kernel
  simp only [Bool.and_eq_true] at k1 k2
  have rest : rNow M2 ∧ rImg M2 ∧ rTk M2 ∧ rPn M2 ∧ rPi M2 := ⟨rNow_fr f2 k2.1 (rNow_fr f1 k1.1 hr.1), rImg_fr f2 k2.2.1 (rImg_fr f1 k1.2.1 hr.2.1), rTk_fr f2 k2.2.2.1 (rTk_fr f1 k1.2.2.1 hr.2.2.1), rPn_fr f2 k2.2.2.2.1 (rPn_fr f1 k1.2.2.2.1 hr.2.2.2.1), rPi_fr f2 k2.2.2.2.2 (rPi_fr f1 k1.2.2.2.2 hr.2.2.2.2)⟩
  have w203 : xWs (M2 203) := fun j hj => by rw [f2 203 j (by decide) rfl (by simp only [l_58, pOut_cons, pOut_nil, true_or, and_true]; omega), f1 203 j (by decide) rfl (by simp only [l_5, pOut_cons, pOut_nil, true_or, and_true]; omega)]; exact t6 j hj
  have m24 : M1 188 24 = M 188 24 := f1 188 24 (by decide) rfl (by simp only [l_5, pOut_cons, pOut_nil, true_or, and_true]; omega)
  have m202 : ∀ i, M1 202 i = M 202 i := fun i => f1 202 i (by decide) rfl (by simp only [l_5, pOut_cons, pOut_nil, true_or, and_true]; omega)
  have n1 : M2 1 0 = M1 1 0 := f2 1 0 (by decide) rfl (by simp only [l_58, pOut_cons, pOut_nil, true_or, and_true]; omega)
  have n2 : ∀ i, M2 2 i = M1 2 i := fun i => f2 2 i (by decide) rfl (by simp only [l_58, pOut_cons, pOut_nil, true_or, and_true]; omega)
  obtain ⟨Ma, ea, h2⟩ := h2
  have a24 : Ma 188 24 = M 188 24 := by rw [ea, aPut_at (by decide)]; exact m24
  have a202 : ∀ i, Ma 202 i = M 202 i := fun i => by rw [ea, aPut_cell (by decide)]; exact m202 i
  obtain ⟨n, hn⟩ : ∃ n : Nat, (M 1 0).toInt = n := ⟨(M 1 0).toInt.toNat, by omega⟩
  have c1 : (M 1 0 + kI 20 ≤ kI 500) ↔ n ≤ 480 := by
    rw [i_le, i_add (by rw [kI_toInt (by decide) (by decide)]; omega) (by rw [kI_toInt (by decide) (by decide)]; omega), kI_toInt (by decide) (by decide), kI_toInt (by decide) (by decide), hn]
    omega
  have c2 : (Ma 188 24 ≤ kI 480) ↔ n ≤ 480 := by
    rw [i_le, a24, ← t1, hn, kI_toInt (by decide) (by decide)]
    omega
  by_cases hc : n ≤ 480
  · have h1 := tIf_p (c1.mpr hc) h1
    have h2 := tIf_p (c2.mpr hc) h2
    obtain ⟨_, A1, x1, _, A2, x2, _, A3, x3, _, A4, x4, _, A5, x5, hv, hM⟩ := h1
    obtain ⟨_, B1, y1, _, B2, y2, _, B3, y3, _, B4, y4, _, B5, y5, hu, hN⟩ := h2
    obtain ⟨l1, d1⟩ := D_194_w (n := n) (by omega) hn x1
    obtain ⟨l2, d2⟩ := D_194_w (n := n + 4) (by omega) l1 x2
    obtain ⟨l3, d3⟩ := D_194_w (n := n + 4 + 4) (by omega) l2 x3
    obtain ⟨l4, d4⟩ := D_194_w (n := n + 4 + 4 + 4) (by omega) l3 x4
    obtain ⟨l5, d5⟩ := D_194_w (n := n + 4 + 4 + 4 + 4) (by omega) l4 x5
    obtain ⟨k1, g1⟩ := D_57_w (n := n) (by omega) (by rw [a24, ← t1]; exact hn) y1
    obtain ⟨k2, g2⟩ := D_57_w (n := n + 4) (by omega) k1 y2
    obtain ⟨k3, g3⟩ := D_57_w (n := n + 4 + 4) (by omega) k2 y3
    obtain ⟨k4, g4⟩ := D_57_w (n := n + 4 + 4 + 4) (by omega) k3 y4
    obtain ⟨k5, g5⟩ := D_57_w (n := n + 4 + 4 + 4 + 4) (by omega) k4 y5
    obtain ⟨s1, z1⟩ := fd_both (by omega) d1 g1 (fun i hi => by rw [a202]; exact t2 i hi) (fun i hi => by rw [a202]; exact t5 i hi)
    obtain ⟨s2, z2⟩ := fd_both (by omega) d2 g2 s1 z1
    obtain ⟨s3, z3⟩ := fd_both (by omega) d3 g3 s2 z2
    obtain ⟨s4, z4⟩ := fd_both (by omega) d4 g4 s3 z3
    obtain ⟨s5, z5⟩ := fd_both (by omega) d5 g5 s4 z4
    have e5 : A5 1 0 = B5 188 24 := by rw [i_eq, l5, k5]
    refine ⟨by rw [hv, hu]; exact e5, ⟨?_, fun i hi => ?_, ?_, ?_, fun i hi => ?_, w203⟩, rest⟩
    · rw [n1, hM, hN]; exact e5
    · rw [n2, hM, hN]; exact s5 i hi
    · rw [n1, hM, l5]; omega
    · rw [n1, hM, l5]; omega
    · rw [hN]; exact z5 i hi
  · obtain ⟨hv, hM⟩ := tIf_n (fun q => hc (c1.mp q)) h1
    obtain ⟨hu, hN⟩ := tIf_n (fun q => hc (c2.mp q)) h2
    refine ⟨by rw [hv, hu], ⟨?_, fun i hi => ?_, ?_, ?_, fun i hi => ?_, w203⟩, rest⟩
    · rw [n1, hM, hN, a24]; exact t1
    · rw [n2, hM, hN, a202]; exact t2 i hi
    · rw [n1, hM]; exact t3
    · rw [n1, hM]; exact t4
    · rw [hN, a202]; exact t5 i hi
theorem op_end {p1 v u : Int32} {M M1 M2 : pMem} (h : rA M) (h1 : D_6 p1 M v M1) (h2 : D_59 p1 M1 u M2) : v = u ∧ rA M2 := by
  have f1 := F_6 h1
  have f2 := F_59 h2
  obtain ⟨ht, hr⟩ := h
  obtain ⟨t1, t2, t3, t4, t5, t6⟩ := ht
  have k1 : (kNow l_6 && (kImg l_6 && (kTk l_6 && (kPn l_6 && kPi l_6)))) = true := by decide +kernel
  have k2 : (kNow l_59 && (kImg l_59 && (kTk l_59 && (kPn l_59 && kPi l_59)))) = true := by decide +kernel
  simp only [Bool.and_eq_true] at k1 k2
  have rest : rNow M2 ∧ rImg M2 ∧ rTk M2 ∧ rPn M2 ∧ rPi M2 := ⟨rNow_fr f2 k2.1 (rNow_fr f1 k1.1 hr.1), rImg_fr f2 k2.2.1 (rImg_fr f1 k1.2.1 hr.2.1), rTk_fr f2 k2.2.2.1 (rTk_fr f1 k1.2.2.1 hr.2.2.1), rPn_fr f2 k2.2.2.2.1 (rPn_fr f1 k1.2.2.2.1 hr.2.2.2.1), rPi_fr f2 k2.2.2.2.2 (rPi_fr f1 k1.2.2.2.2 hr.2.2.2.2)⟩
  have o1 : ∀ a j, a < 230 → pScr a j = false → ¬ (a = 1 ∧ j = 0) → M1 a j = M a j := fun a j q1 q2 q3 => f1 a j q1 q2 (by simp only [l_6, pOut_cons, pOut_nil, true_or, and_true]; omega)
  have o2 : ∀ a j, a < 230 → pScr a j = false → ¬ (a = 188 ∧ j = 24) → M2 a j = M1 a j := fun a j q1 q2 q3 => f2 a j q1 q2 (by simp only [l_59, pOut_cons, pOut_nil, true_or, and_true]; omega)
  have b2 : ∀ i, M2 2 i = M 2 i := fun i => by rw [o2 2 i (by decide) rfl (by omega), o1 2 i (by decide) rfl (by omega)]
  have b202 : ∀ i, M2 202 i = M 202 i := fun i => by rw [o2 202 i (by decide) rfl (by omega), o1 202 i (by decide) rfl (by omega)]
  have b203 : ∀ i, M2 203 i = M 203 i := fun i => by rw [o2 203 i (by decide) rfl (by omega), o1 203 i (by decide) rfl (by omega)]
  have n1 : M2 1 0 = M1 1 0 := o2 1 0 (by decide) rfl (by omega)
  have m24 : M1 188 24 = M 188 24 := o1 188 24 (by decide) rfl (by omega)
  obtain ⟨Ma, ea, h2⟩ := h2
  have a24 : Ma 188 24 = M 188 24 := by rw [ea, aPut_at (by decide)]; exact m24
  have c2 : ¬ f_42 p1 (kI 0) (Ma 188 24) = 0 ↔ 0 ≤ p1.toInt ∧ p1.toInt ≤ (M 1 0).toInt := by
    rw [f_42_iff, i_le, i_le, kI0, a24, ← t1]
  have key : v = u ∧ M2 1 0 = M2 188 24 ∧ 0 ≤ (M2 1 0).toInt ∧ (M2 1 0).toInt ≤ 500 := by
    have no : ¬ (0 ≤ p1.toInt ∧ p1.toInt ≤ (M 1 0).toInt) → v = kI 0 → M1 = M → v = u ∧ M2 1 0 = M2 188 24 ∧ 0 ≤ (M2 1 0).toInt ∧ (M2 1 0).toInt ≤ 500 := by
      intro c hv hM
      obtain ⟨hu, hN⟩ := tIf_n (fun q => c (c2.mp q)) h2
      refine ⟨by rw [hv, hu], ?_, ?_, ?_⟩
      · rw [n1, hM, hN, a24]; exact t1
      · rw [n1, hM]; exact t3
      · rw [n1, hM]; exact t4
    rcases h1 with ⟨g, hv, hM⟩ | ⟨g, h1⟩
    · rw [i_lt, i_0] at g
      exact no (by omega) hv hM
    · rw [i_lt, i_0] at g
      rcases h1 with ⟨g2, Mb, eb, hv, hM⟩ | ⟨g2, hv, hM⟩
      · rw [i_le] at g2
        obtain ⟨Mc, ec, hu, hN⟩ := tIf_p (c2.mpr ⟨by omega, g2⟩) h2
        have x1 : M2 1 0 = p1 := by rw [n1, hM, eb, aPut_same]
        refine ⟨by rw [hv, hu], ?_, ?_, ?_⟩
        · rw [x1, hN, ec, aPut_same]
        · rw [x1]; omega
        · rw [x1]; omega
      · rw [i_le] at g2
        exact no (by omega) hv hM
  refine ⟨key.1, ⟨key.2.1, fun i hi => ?_, key.2.2.1, key.2.2.2, fun i hi => ?_, fun j hj => ?_⟩, rest⟩
  · rw [b2, b202]; exact t2 i hi
  · rw [b202]; exact t5 i hi
  · rw [b203]; exact t6 j hj
/-! texts -/
/-- of a text that is no plan -/
theorem D_7_else {p1 p2 v : Int32} {M N : pMem} (h : D_7 p1 p2 M v N) (c : ¬ (p1 = kI 1 ∧ 0 ≤ p2.toInt ∧ p2.toInt < 4)) : N 1 0 = kI 0 ∧ ∀ a j, a < 230 → pScr a j = false → (a = 0 ∨ a = 2 ∨ 18 ≤ a ∧ a < 30 ∨ (∃ k o, k < 4 ∧ o < 4 ∧ a = 37 + 11 * k + o) ∨ 74 ≤ a) → N a j = M a j := by
  obtain ⟨_, M1, h170, h⟩ := h
  have f := F_170 h170
  have r : ∀ a j, a < 230 → pScr a j = false → (a = 0 ∨ a = 2 ∨ 18 ≤ a) → M1 a j = M a j := fun a j q1 q2 q3 => f a j q1 q2 (by simp only [l_170, pOut_cons, pOut_nil, true_or, and_true]; omega)
  have plain : ∀ {M2 : pMem}, M2 = aPut M1 1 0 (kI 0) → N = M2 → N 1 0 = kI 0 ∧ ∀ a j, a < 230 → pScr a j = false → (a = 0 ∨ a = 2 ∨ 18 ≤ a ∧ a < 30 ∨ (∃ k o, k < 4 ∧ o < 4 ∧ a = 37 + 11 * k + o) ∨ 74 ≤ a) → N a j = M a j := by
    rintro M2 e rfl
    refine ⟨by rw [e, aPut_same], fun a j q1 q2 q3 => ?_⟩
    have q4 : a = 0 ∨ a = 2 ∨ 18 ≤ a := by
      rcases q3 with q | q | q | ⟨k, o, _, _, q⟩ | q <;> omega
    rw [e, aPut_cell (by omega), r a j q1 q2 q4]
  have plan : (tIf (¬ p1 = (kI 1)) (tPut (aPut M1 1 0 (kI 0)) fun M2 => tRet (kI (-1)) M2) (tIf ((f_33 p2) = 0) (tPut (aPut M1 1 0 (kI 0)) fun M2 => tRet (kI (-1)) M2) (tGd (pIn p2 4) <| tCall (D_181 (37 + 11 * ix p2) M1) fun v2 M2 => tPut (aPut M2 1 0 (kI 0)) fun M3 => tRet v2 M3))) v N → N 1 0 = kI 0 ∧ ∀ a j, a < 230 → pScr a j = false → (a = 0 ∨ a = 2 ∨ 18 ≤ a ∧ a < 30 ∨ (∃ k o, k < 4 ∧ o < 4 ∧ a = 37 + 11 * k + o) ∨ 74 ≤ a) → N a j = M a j := by
    rintro (⟨_, M2, e, _, hN⟩ | ⟨g, h⟩)
    · exact plain e hN
    · rcases h with ⟨_, M2, e, _, hN⟩ | ⟨g2, _⟩
      · exact plain e hN
      · exact absurd ⟨Classical.not_not.mp g, f_33_iff.mp g2⟩ c
  rcases h with ⟨_, h⟩ | ⟨_, h⟩
  · exact plan h
  · rcases h with ⟨_, h⟩ | ⟨g2, g3, v2, M2, h174, M3, e3, _, hN⟩
    · exact plan h
    · obtain ⟨g3a, g3b⟩ := ix_in g3
      have f2 := F_174 (pArK (show pAr 24 4 30 11 2 = true by decide +kernel) (by decide) g3) h174
      rw [hN]
      refine ⟨by rw [e3, aPut_same], fun a j q1 q2 q3 => ?_⟩
      have q4 : a = 0 ∨ a = 2 ∨ 18 ≤ a := by
        rcases q3 with q | q | q | ⟨k, o, _, _, q⟩ | q <;> omega
      rw [e3, aPut_cell (by omega), f2 a j q1 q2 ?_, r a j q1 q2 q4]
      simp only [l_174, pOut_cons, pOut_nil, true_or, and_true]
      generalize ix p2 = i at g3b
      rcases q3 with q | q | q | ⟨k, o, hk, ho, q⟩ | q <;> omega
theorem D_81_else {p1 p2 v : Int32} {M N : pMem} (h : D_81 p1 p2 M v N) (c : ¬ (p1 = kI 1 ∧ 0 ≤ p2.toInt ∧ p2.toInt < 4)) : N 188 24 = kI 0 ∧ ∀ a j, (a = 213 ∨ a = 214 ∨ a = 215) → N a j = M a j := by
  obtain ⟨M1, e1, M2, e2, M3, e3, h⟩ := h
  have r3 : ∀ a j, (a = 213 ∨ a = 214 ∨ a = 215) → M3 a j = M a j := fun a j ha => by rw [e3, aPut_cell (by omega), e2, aPut_cell (by omega), e1, aPut_cell (by omega)]
  have sc : ∀ a j, (a = 213 ∨ a = 214 ∨ a = 215) → pScr a j = false := fun a j ha => by rcases ha with rfl | rfl | rfl <;> rfl
  have rd : ∀ {M4 M5 M6 M7 : pMem} {u : Unit}, M4 = aPut M3 188 25 (kI 0) → M5 = aPut M4 188 38 (kI 0) → M6 = aPut M5 188 39 (kI 0) → D_65 M6 u M7 → ∀ a j, (a = 213 ∨ a = 214 ∨ a = 215) → M7 a j = M a j := by
    intro M4 M5 M6 M7 u e4 e5 e6 h65 a j ha
    rw [F_65 h65 a j (by omega) (sc a j ha) (by simp only [l_65, pOut_cons, pOut_nil, true_or, and_true]; omega), e6, aPut_cell (by omega), e5, aPut_cell (by omega), e4, aPut_cell (by omega)]
    exact r3 a j ha
  -- behind what was read
  have behind : ∀ {x3 s0 : Int32} {M8 : pMem}, (p1 = 0 ∨ s0 = kI (-1)) → (∀ a j, (a = 213 ∨ a = 214 ∨ a = 215) → M8 a j = M a j) → L_81_9 p1 p2 x3 s0 M8 v N → N 188 24 = kI 0 ∧ ∀ a j, (a = 213 ∨ a = 214 ∨ a = 215) → N a j = M a j := by
    intro x3 s0 M8 hp hM8 h
    refine h (fun x s M' v N => (p1 = 0 ∨ s = kI (-1)) → (∀ a j, (a = 213 ∨ a = 214 ∨ a = 215) → M' a j = M a j) → N 188 24 = kI 0 ∧ ∀ a j, (a = 213 ∨ a = 214 ∨ a = 215) → N a j = M a j) ?_ hp hM8
    intro x s M' v N hs hp hM'
    obtain ⟨Ma, ea, hs⟩ := hs
    have ra : ∀ a j, (a = 213 ∨ a = 214 ∨ a = 215) → Ma a j = M a j := fun a j ha => by rw [ea, aPut_cell (by omega)]; exact hM' a j ha
    have a24 : Ma 188 24 = kI 0 := by rw [ea, aPut_same]
    have tk : ∀ {X : pMem}, X 188 24 = kI 0 → (∀ a j, (a = 213 ∨ a = 214 ∨ a = 215) → X a j = M a j) → ¬ s = kI (-1) → (tIf (¬ p1 = 0) (tCall (D_80 p2 s X) fun _ M2 => tRet s M2) (tCall (D_78 p2 s X) fun _ M2 => tRet s M2)) v N → N 188 24 = kI 0 ∧ ∀ a j, (a = 213 ∨ a = 214 ∨ a = 215) → N a j = M a j := by
      intro X x24 xr hne hs
      have p0 : p1 = 0 := hp.resolve_right hne
      obtain ⟨_, M2, h78, _, hN⟩ := tIf_n (nn p0) hs
      have f := F_78 h78
      rw [hN]
      refine ⟨by rw [f 188 24 (by decide) rfl (by simp only [l_78, pOut_cons, pOut_nil, true_or, and_true]; omega)]; exact x24, fun a j ha => ?_⟩
      rw [f a j (by omega) (sc a j ha) (by simp only [l_78, pOut_cons, pOut_nil, true_or, and_true]; omega)]
      exact xr a j ha
    rcases hs with ⟨_, hs⟩ | ⟨_, hs⟩
    · rcases hs with ⟨g, hs⟩ | ⟨_, _, hN⟩
      · exact tk a24 ra g hs
      · rw [hN]; exact ⟨a24, ra⟩
    · rcases hs with ⟨g, hs⟩ | ⟨_, Mb, eb, Mc, ec, hs⟩
      · rcases hs with ⟨_, hs⟩ | ⟨_, _, hN⟩
        · exact tk a24 ra g hs
        · rw [hN]; exact ⟨a24, ra⟩
      · have c24 : Mc 188 24 = kI 0 := by rw [ec, aPut_at (by decide), eb, aPut_at (by decide)]; exact a24
        have rc : ∀ a j, (a = 213 ∨ a = 214 ∨ a = 215) → Mc a j = M a j := fun a j ha => by rw [ec, aPut_cell (by omega), eb, aPut_cell (by omega)]; exact ra a j ha
        rcases hs with ⟨g, hs⟩ | ⟨_, _, hN⟩
        · exact tk c24 rc g hs
        · rw [hN]; exact ⟨c24, rc⟩
  rcases h with ⟨_, M4, e4, M5, e5, M6, e6, _, M7, h65, h⟩ | ⟨g1, h⟩
  · exact behind (Or.inr rfl) (rd e4 e5 e6 h65) h
  · rcases h with ⟨_, M4, e4, M5, e5, M6, e6, _, M7, h65, h⟩ | ⟨g2, M4, e4, M5, e5, M6, e6, _, M7, h65, h⟩
    · exact behind (Or.inr rfl) (rd e4 e5 e6 h65) h
    · have g2 := f_42_iff.mp g2
      have g1 := f_42_iff.mp g1
      rw [i_le, i_le, kI_toInt (by decide) (by decide), kI_toInt (by decide) (by decide)] at g2
      rw [i_le, i_le, kI_toInt (by decide) (by decide), kI_toInt (by decide) (by decide)] at g1
      have p0 : p1 = 0 := by
        rw [i_eq, i_0]
        apply Classical.byContradiction
        intro q
        exact c ⟨kI_inj (by omega), by omega, by omega⟩
      obtain ⟨v2, M8, h77, h⟩ := tIf_n (nn p0) h
      have f := F_77 h77
      refine behind (Or.inl p0) (fun a j ha => ?_) h
      rw [f a j (by omega) (sc a j ha) (by simp only [l_77, pOut_cons, pOut_nil, true_or, and_true]; omega)]
      exact rd e4 e5 e6 h65 a j ha
theorem op_text {p1 p2 v u : Int32} {M M1 M2 : pMem} (h : rA M) (h1 : D_7 p1 p2 M v M1) (h2 : D_81 p1 p2 M1 u M2) : rA M2 := by
  obtain ⟨ht, hn, hi, hk, hp, hq⟩ := h
  obtain ⟨t1, t2, t3, t4, t5, t6⟩ := ht
  have f2 := F_81 h2
  have k2 : (kNow l_81 && (kImg l_81 && (kTk l_81 && kPi l_81))) = true := by decide +kernel
  simp only [Bool.and_eq_true] at k2
  -- the class's cells, but for the text's own
  have o2 : ∀ a j, a < 188 → pScr a j = false → M2 a j = M1 a j := fun a j q1 q2 => f2 a j (by omega) q2 (by simp only [l_81, pOut_cons, pOut_nil, true_or, and_true]; omega)
  have o2' : ∀ a j, (a = 202 ∨ a = 203) → M2 a j = M1 a j := fun a j q1 => f2 a j (by omega) (by rcases q1 with rfl | rfl <;> rfl) (by simp only [l_81, pOut_cons, pOut_nil, true_or, and_true]; omega)
  by_cases c : p1 = kI 1 ∧ 0 ≤ p2.toInt ∧ p2.toInt < 4
  · obtain ⟨c1, c2, c3⟩ := c
    obtain ⟨n, hnn⟩ : ∃ n : Nat, (M 1 0).toInt = n := ⟨(M 1 0).toInt.toNat, by omega⟩
    obtain ⟨k, hkk⟩ : ∃ k : Nat, p2.toInt = k := ⟨p2.toInt.toNat, by omega⟩
    have hk4 : k < 4 := by omega
    have n5 : n ≤ 500 := by omega
    have f1 := F_7 h1
    have o1 : ∀ a j, a < 230 → pScr a j = false → (a = 0 ∨ a = 2 ∨ 18 ≤ a ∧ a < 30 ∨ (∃ q o, q < 4 ∧ o < 4 ∧ q ≠ k ∧ a = 37 + 11 * q + o) ∨ 74 ≤ a) → M1 a j = M a j := fun a j q1 q2 q3 => f1 a j q1 q2 (by
      simp only [l_7, pOut_cons, pOut_nil, true_or, and_true]
      rw [ix_of hkk]
      rcases q3 with q | q | q | ⟨q, o, hq, ho, hne, q⟩ | q <;> omega)
    obtain ⟨w1, w2, w3⟩ := D_7_plan n5 hnn c1 hkk hk4 h1
    have pre : xPre M1 (M 202) n := ⟨by rw [o1 188 24 (by decide) rfl (by omega), ← t1]; exact hnn, funext fun i => o1 202 i (by decide) rfl (by omega), fun j hj => by rw [o1 203 j (by decide) rfl (by omega)]; exact t6 j hj⟩
    obtain ⟨r1, r2, r3⟩ := D_81_plan n5 pre (fun i hi => t5 i (by omega)) c1 hkk hk4 h2
    have cg : ∀ i, i < n → M 2 i = M 202 i := fun i hi => t2 i (by omega)
    rw [yT_cg cg, yV_cg cg] at w1 w2
    refine ⟨⟨?_, fun i hi => ?_, ?_, ?_, fun i hi => ?_, fun j hj => ?_⟩, ?_, ?_, ?_, ?_, ?_⟩
    · rw [o2 1 0 (by decide) rfl, w3, r3]
    · rw [o2 2 i (by decide) rfl, o1 2 i (by decide) rfl (by omega), o2' 202 i (by omega), o1 202 i (by decide) rfl (by omega)]; exact t2 i hi
    · rw [o2 1 0 (by decide) rfl, w3]; decide
    · rw [o2 1 0 (by decide) rfl, w3]; decide
    · rw [o2' 202 i (by omega), o1 202 i (by decide) rfl (by omega)]; exact t5 i hi
    · rw [o2' 203 j (by omega), o1 203 j (by decide) rfl (by omega)]; exact t6 j hj
    · refine rNow_fr f2 k2.1 ?_
      unfold rNow
      rw [o1 19 0 (by decide) rfl (by omega), o1 19 4 (by decide) rfl (by omega), o1 19 5 (by decide) rfl (by omega), o1 188 1 (by decide) rfl (by omega), o1 188 2 (by decide) rfl (by omega), o1 188 3 (by decide) rfl (by omega)]
      exact hn
    · refine rImg_fr f2 k2.2.1 ?_
      unfold rImg
      rw [o1 75 0 (by decide) rfl (by omega), o1 75 4 (by decide) rfl (by omega), o1 75 5 (by decide) rfl (by omega), o1 229 4460 (by decide) rfl (by omega), o1 229 7001 (by decide) rfl (by omega), o1 229 7000 (by decide) rfl (by omega)]
      exact hi
    · refine rTk_fr f2 k2.2.2.1 ?_
      unfold rTk
      rw [o1 0 8 (by decide) rfl (by omega), o1 188 77 (by decide) rfl (by omega)]
      exact hk
    · intro q hq4
      have oth : (¬ q = k) → ∀ o j, o < 4 → M2 (37 + 11 * q + o) j = M (37 + 11 * q + o) j := fun hne o j ho => by
        rw [o2 _ j (by omega) (pl_scr hq4 ho), o1 _ j (by omega) (pl_scr hq4 ho) (Or.inr (Or.inr (Or.inr (Or.inl ⟨q, o, hq4, ho, hne, rfl⟩))))]
      by_cases e0 : (plL (yT (M 202) n) (yV (M 202) n) 24 0).1 = 0
      · obtain ⟨a1, a2, a3, a4⟩ := w1 e0
        obtain ⟨b1, b2, b3, b4, b5, b6, b7⟩ := r1 e0
        by_cases e : q = k
        · subst e
          refine ⟨_, plL_len 24 0, b4, b5, ?_⟩
          have m2 : ∀ o j, o < 4 → M2 (37 + 11 * q + o) j = M1 (37 + 11 * q + o) j := fun o j ho => o2 _ j (by omega) (pl_scr hq4 ho)
          exact pdOk_eq a4 (m2 0 0 (by omega)) (fun i => ⟨m2 1 i (by omega), m2 2 i (by omega), m2 3 i (by omega)⟩)
        · refine rPlan_eq (hp q hq4) ?_ (oth e 0 0 (by omega)) (fun i => ⟨oth e 1 i (by omega), oth e 2 i (by omega), oth e 3 i (by omega)⟩) (fun i hi => ?_)
          · rw [b7 q e, o1 213 q (by decide) rfl (by omega)]
          · rw [(b6 (24 * q + i) (by omega) (by omega)).1, (b6 (24 * q + i) (by omega) (by omega)).2, o1 214 _ (by decide) rfl (by omega), o1 215 _ (by decide) rfl (by omega)]
            exact ⟨rfl, rfl⟩
      · obtain ⟨a1, a2, a3, a4⟩ := w2 e0
        obtain ⟨b1, b2, b3, b4, b5⟩ := r2 e0
        have all : ∀ o j, o < 4 → (o = 0 → j = 0) → M2 (37 + 11 * q + o) j = M (37 + 11 * q + o) j := fun o j ho hj => by
          by_cases e : q = k
          · subst e
            rw [o2 _ j (by omega) (pl_scr hq4 ho)]
            obtain ⟨x1, x2⟩ := a4 (37 + 11 * q + o) (by omega)
            by_cases o0 : o = 0
            · rw [hj o0]; exact x1
            · rw [x2 (by omega)]
          · exact oth e o j ho
        refine rPlan_eq (hp q hq4) ?_ (all 0 0 (by omega) (fun _ => rfl)) (fun i => ⟨all 1 i (by omega) (fun e => absurd e (by decide)), all 2 i (by omega) (fun e => absurd e (by decide)), all 3 i (by omega) (fun e => absurd e (by decide))⟩) (fun i hi => ?_)
        · rw [b4, o1 213 q (by decide) rfl (by omega)]
        · rw [(b5 (24 * q + i) (by omega)).1, (b5 (24 * q + i) (by omega)).2, o1 214 _ (by decide) rfl (by omega), o1 215 _ (by decide) rfl (by omega)]
          exact ⟨rfl, rfl⟩
    · refine rPi_fr f2 k2.2.2.2 ⟨fun a ha => ?_, fun b hb => ?_⟩
      · have cc : ∀ o j, o < 4 → M1 (93 + 11 * a + o) j = M (93 + 11 * a + o) j := fun o j ho => o1 _ j (by omega) (pi_scr ha ho) (by omega)
        exact rPlan_eq (hq.1 a ha) (o1 229 _ (by decide) rfl (by omega)) (cc 0 0 (by omega)) (fun i => ⟨cc 1 i (by omega), cc 2 i (by omega), cc 3 i (by omega)⟩) (fun i _ => ⟨o1 229 _ (by decide) rfl (by omega), o1 229 _ (by decide) rfl (by omega)⟩)
      · rw [o1 226 b (by decide) rfl (by omega), o1 229 _ (by decide) rfl (by omega)]
        exact hq.2 b hb
  · obtain ⟨w1, o1⟩ := D_7_else h1 c
    obtain ⟨r1, r2⟩ := D_81_else h2 c
    refine ⟨⟨?_, fun i hi => ?_, ?_, ?_, fun i hi => ?_, fun j hj => ?_⟩, ?_, ?_, ?_, ?_, ?_⟩
    · rw [o2 1 0 (by decide) rfl, w1, r1]
    · rw [o2 2 i (by decide) rfl, o1 2 i (by decide) rfl (by omega), o2' 202 i (by omega), o1 202 i (by decide) rfl (by omega)]; exact t2 i hi
    · rw [o2 1 0 (by decide) rfl, w1]; decide
    · rw [o2 1 0 (by decide) rfl, w1]; decide
    · rw [o2' 202 i (by omega), o1 202 i (by decide) rfl (by omega)]; exact t5 i hi
    · rw [o2' 203 j (by omega), o1 203 j (by decide) rfl (by omega)]; exact t6 j hj
    · refine rNow_fr f2 k2.1 ?_
      unfold rNow
      rw [o1 19 0 (by decide) rfl (by omega), o1 19 4 (by decide) rfl (by omega), o1 19 5 (by decide) rfl (by omega), o1 188 1 (by decide) rfl (by omega), o1 188 2 (by decide) rfl (by omega), o1 188 3 (by decide) rfl (by omega)]
      exact hn
    · refine rImg_fr f2 k2.2.1 ?_
      unfold rImg
      rw [o1 75 0 (by decide) rfl (by omega), o1 75 4 (by decide) rfl (by omega), o1 75 5 (by decide) rfl (by omega), o1 229 4460 (by decide) rfl (by omega), o1 229 7001 (by decide) rfl (by omega), o1 229 7000 (by decide) rfl (by omega)]
      exact hi
    · refine rTk_fr f2 k2.2.2.1 ?_
      unfold rTk
      rw [o1 0 8 (by decide) rfl (by omega), o1 188 77 (by decide) rfl (by omega)]
      exact hk
    · intro q hq4
      have all : ∀ o j, o < 4 → M2 (37 + 11 * q + o) j = M (37 + 11 * q + o) j := fun o j ho => by
        rw [o2 _ j (by omega) (pl_scr hq4 ho), o1 _ j (by omega) (pl_scr hq4 ho) (Or.inr (Or.inr (Or.inr (Or.inl ⟨q, o, hq4, ho, rfl⟩))))]
      have rr : ∀ a j, (a = 213 ∨ a = 214 ∨ a = 215) → M2 a j = M a j := fun a j ha => by rw [r2 a j ha, o1 a j (by omega) (by rcases ha with rfl | rfl | rfl <;> rfl) (by omega)]
      exact rPlan_eq (hp q hq4) (rr 213 q (by omega)) (all 0 0 (by omega)) (fun i => ⟨all 1 i (by omega), all 2 i (by omega), all 3 i (by omega)⟩) (fun i _ => ⟨rr 214 _ (by omega), rr 215 _ (by omega)⟩)
    · refine rPi_fr f2 k2.2.2.2 ⟨fun a ha => ?_, fun b hb => ?_⟩
      · have cc : ∀ o j, o < 4 → M1 (93 + 11 * a + o) j = M (93 + 11 * a + o) j := fun o j ho => o1 _ j (by omega) (pi_scr ha ho) (by omega)
        exact rPlan_eq (hq.1 a ha) (o1 229 _ (by decide) rfl (by omega)) (cc 0 0 (by omega)) (fun i => ⟨cc 1 i (by omega), cc 2 i (by omega), cc 3 i (by omega)⟩) (fun i _ => ⟨o1 229 _ (by decide) rfl (by omega), o1 229 _ (by decide) rfl (by omega)⟩)
      · rw [o1 226 b (by decide) rfl (by omega), o1 229 _ (by decide) rfl (by omega)]
        exact hq.2 b hb
