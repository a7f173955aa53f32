/-! a day in thought: the class's wood 143, the reference in its place -/
def rTh (l k : Nat) (o : List Cd) (L : List Ln) (M V : pMem) : Prop := rV V ∧ rW 143 M V ∧ cLk M l o L ∧ rLk V k o L ∧ 0 ≤ (V 188 3).toInt ∧ (V 188 3).toInt ≤ 60
theorem day_th {l k : Nat} (hl : pK 2 l = true) {o : List Cd} {L : List Ln} {M V Vr N M1 : pMem} (h : rTh l k o L M V) (hd : (V 188 3).toInt < 60) {p1 p2 p3 : Int32} (hp : p3 = kI (-1) ∨ bo p3) {v : Int32} {u : Unit} (hD : D_138 143 l p1 p2 p3 M v M1) (hs : sc V Vr) (h101 : D_101 p1 p2 p3 Vr u N) :
    rTh l k o L M1 N ∧ v = f_102 N ∧ sx (dyV (stV o L p1 p2 p3 V)) N ∧ frC 143 l M M1 := by
  obtain ⟨hV, hW, cl, rl, d0, d60⟩ := h
  have hw : pK 10 143 = true := by decide +kernel
  obtain ⟨a1, a2, a3, a4, a5⟩ := D_138_v hw hl hV hW ⟨d0, by omega⟩ cl hp hD
  obtain ⟨x1, _⟩ := D_101_v hs hV ⟨d0, by omega⟩ rl h101
  have ag := agV_sx x1
  have f := F_101 h101
  have r3 : N 188 3 = V 188 3 + kI 1 := by
    rw [sx_8 x1 (by decide) (by decide)]
    unfold dyV
    rw [aPut_same, st8 (by decide)]
  have t3 : (V 188 3 + kI 1).toInt = (V 188 3).toInt + 1 := i_add1 (by omega)
  have rlN : rLk N k o L := rLk_v rl (fun b q1 q2 => by
    rw [sx_row x1 (by omega) (by
      have e : b = 204 ∨ b = 205 ∨ b = 206 ∨ b = 207 ∨ b = 208 ∨ b = 209 ∨ b = 210 ∨ b = 211 := by omega
      rcases e with rfl | rfl | rfl | rfl | rfl | rfl | rfl | rfl <;> rfl) (by omega) (by omega) (by omega), dyR (by omega), stR (by omega) (by omega) (by omega) (by omega)]) (by rw [sx_8 x1 (by decide) (by decide), dy8 (by decide), st8 (by decide)])
  refine ⟨⟨rV_cg a1 ag, rW_cg a2 ag, frC_law hw hl a5 cl, rlN, by rw [r3, t3]; omega, by rw [r3, t3]; omega⟩, ?_, x1, a5⟩
  unfold f_102
  rw [a3, sx_8 x1 (by decide) (by decide), dy8 (by decide)]
  exact st54
