/-! what both sides have in common between calls (tape, boys, days, state, plans), and the calls that keep to it -/
def rNow (M : pMem) : Prop := M 19 0 = M 188 2 ∧ M 19 4 = M 188 3 ∧ M 19 5 = M 188 1 ∧ (0 ≤ (M 19 0).toInt ∧ (M 19 0).toInt ≤ 24) ∧ 0 ≤ (M 19 4).toInt ∧ (M 19 4).toInt ≤ 60
def rImg (M : pMem) : Prop := M 75 0 = M 229 4460 ∧ M 75 4 = M 229 7001 ∧ M 75 5 = M 229 7000 ∧ (0 ≤ (M 75 0).toInt ∧ (M 75 0).toInt ≤ 24) ∧ 0 ≤ (M 75 4).toInt ∧ (M 75 4).toInt ≤ 60
def rTk (M : pMem) : Prop := M 0 8 = M 188 77 ∧ (M 0 8 = kI 0 ∨ M 0 8 = kI 1)
def rPn (M : pMem) : Prop := ∀ k, k < 4 → rPlan M (37 + 11 * k) (M 213 k) (M 214) (M 215) (24 * k)
def rPi (M : pMem) : Prop := (∀ k, k < 4 → rPlan M (93 + 11 * k) (M 229 (3 * k + 2)) (fun i => M 229 (2 * i + 4268)) (fun i => M 229 (2 * i + 4269)) (24 * k)) ∧ ∀ b, b < 24 → bo (M 226 b) ∧ bo (M 229 (4470 + 5 * b))
def rA (M : pMem) : Prop := rTape M ∧ rNow M ∧ rImg M ∧ rTk M ∧ rPn M ∧ rPi M
/-- no place of a row -/
def pNo (L : List (Nat × Nat)) (a : Nat) : Bool := L.all fun p => !Nat.beq p.1 a
theorem pNo_out {L : List (Nat × Nat)} {a : Nat} (h : pNo L a = true) (j : Nat) : pOut L a j = true := by
  refine List.all_eq_true.mpr fun p hp => ?_
  have := List.all_eq_true.mp h p hp
  simp only [Bool.not_eq_true'] at this
  rw [this]
  rfl
def kTape (L : List (Nat × Nat)) : Bool := pOut L 1 0 && (pOut L 188 24 && (pNo L 2 && (pNo L 202 && pNo L 203)))
def kNow (L : List (Nat × Nat)) : Bool := pOut L 19 0 && (pOut L 19 4 && (pOut L 19 5 && (pOut L 188 1 && (pOut L 188 2 && pOut L 188 3))))
def kImg (L : List (Nat × Nat)) : Bool := pOut L 75 0 && (pOut L 75 4 && (pOut L 75 5 && pNo L 229))
def kTk (L : List (Nat × Nat)) : Bool := pOut L 0 8 && pOut L 188 77
def kPn (L : List (Nat × Nat)) : Bool := (List.range 4).all (fun k => (List.range 4).all fun o => pNo L (37 + 11 * k + o)) && (pNo L 213 && (pNo L 214 && pNo L 215))
def kPi (L : List (Nat × Nat)) : Bool := (List.range 4).all (fun k => (List.range 4).all fun o => pNo L (93 + 11 * k + o)) && (pNo L 229 && pNo L 226)
section RA
variable {M N : pMem} {L : List (Nat × Nat)}
theorem rTape_fr (f : pFr L M N) (k : kTape L = true) (h : rTape M) : rTape N := by
  unfold kTape at k
  simp only [Bool.and_eq_true] at k
  obtain ⟨k1, k2, k3, k4, k5⟩ := k
  have e1 : N 1 0 = M 1 0 := f 1 0 (by decide) rfl k1
  have e2 : N 188 24 = M 188 24 := f 188 24 (by decide) rfl k2
  have e3 : N 2 = M 2 := funext fun i => f 2 i (by decide) rfl (pNo_out k3 i)
  have e4 : N 202 = M 202 := funext fun i => f 202 i (by decide) rfl (pNo_out k4 i)
  have e5 : N 203 = M 203 := funext fun i => f 203 i (by decide) rfl (pNo_out k5 i)
  unfold rTape
  rw [e1, e2, e3, e4, e5]
  exact h
theorem rNow_fr (f : pFr L M N) (k : kNow L = true) (h : rNow M) : rNow N := by
  unfold kNow at k
  simp only [Bool.and_eq_true] at k
  obtain ⟨k1, k2, k3, k4, k5, k6⟩ := k
  unfold rNow
  rw [f 19 0 (by decide) rfl k1, f 19 4 (by decide) rfl k2, f 19 5 (by decide) rfl k3, f 188 1 (by decide) rfl k4, f 188 2 (by decide) rfl k5, f 188 3 (by decide) rfl k6]
  exact h
theorem rImg_fr (f : pFr L M N) (k : kImg L = true) (h : rImg M) : rImg N := by
  unfold kImg at k
  simp only [Bool.and_eq_true] at k
  obtain ⟨k1, k2, k3, k4⟩ := k
  unfold rImg
  rw [f 75 0 (by decide) rfl k1, f 75 4 (by decide) rfl k2, f 75 5 (by decide) rfl k3, f 229 4460 (by decide) rfl (pNo_out k4 _), f 229 7001 (by decide) rfl (pNo_out k4 _), f 229 7000 (by decide) rfl (pNo_out k4 _)]
  exact h
theorem rTk_fr (f : pFr L M N) (k : kTk L = true) (h : rTk M) : rTk N := by
  unfold kTk at k
  simp only [Bool.and_eq_true] at k
  unfold rTk
  rw [f 0 8 (by decide) rfl k.1, f 188 77 (by decide) rfl k.2]
  exact h
/-- a plan of both sides stays, where its rows stay -/
theorem rPlan_eq {pl b : Nat} {m m' : Int32} {W A W' A' : Nat → Int32} (h : rPlan M pl m W A b) (hm : m' = m) (h0 : N pl 0 = M pl 0) (h1 : ∀ i, N (pl + 1) i = M (pl + 1) i ∧ N (pl + 2) i = M (pl + 2) i ∧ N (pl + 3) i = M (pl + 3) i) (hw : ∀ i, i < 24 → W' (b + i) = W (b + i) ∧ A' (b + i) = A (b + i)) : rPlan N pl m' W' A' b := by
  obtain ⟨l, l1, l2, l3, l4⟩ := h
  refine ⟨l, l1, by rw [hm]; exact l2, fun i w hi => ?_, pdOk_eq l4 h0 h1⟩
  have := (List.getElem?_eq_some_iff.mp hi).1
  rw [(hw i (by omega)).1, (hw i (by omega)).2]
  exact l3 i w hi
theorem rPn_fr (f : pFr L M N) (k : kPn L = true) (h : rPn M) : rPn N := by
  unfold kPn at k
  simp only [Bool.and_eq_true] at k
  obtain ⟨k1, k2, k3, k4⟩ := k
  intro a ha
  have c : ∀ o j, o < 4 → N (37 + 11 * a + o) j = M (37 + 11 * a + o) j := fun o j ho =>
    f _ _ (by omega) (pl_scr ha ho) (pNo_out (List.all_eq_true.mp (List.all_eq_true.mp k1 a (List.mem_range.mpr ha)) o (List.mem_range.mpr ho)) j)
  exact rPlan_eq (h a ha) (f 213 a (by decide) rfl (pNo_out k2 a)) (c 0 0 (by omega)) (fun i => ⟨c 1 i (by omega), c 2 i (by omega), c 3 i (by omega)⟩) (fun i _ => ⟨f 214 _ (by decide) rfl (pNo_out k3 _), f 215 _ (by decide) rfl (pNo_out k4 _)⟩)
theorem rPi_fr (f : pFr L M N) (k : kPi L = true) (h : rPi M) : rPi N := by
  unfold kPi at k
  simp only [Bool.and_eq_true] at k
  obtain ⟨k1, k2, k3⟩ := k
  refine ⟨fun a ha => ?_, fun b hb => ?_⟩
  · have c : ∀ o j, o < 4 → N (93 + 11 * a + o) j = M (93 + 11 * a + o) j := fun o j ho =>
      f _ _ (by omega) (pi_scr ha ho) (pNo_out (List.all_eq_true.mp (List.all_eq_true.mp k1 a (List.mem_range.mpr ha)) o (List.mem_range.mpr ho)) j)
    exact rPlan_eq (h.1 a ha) (f 229 _ (by decide) rfl (pNo_out k2 _)) (c 0 0 (by omega)) (fun i => ⟨c 1 i (by omega), c 2 i (by omega), c 3 i (by omega)⟩) (fun i _ => ⟨f 229 _ (by decide) rfl (pNo_out k2 _), f 229 _ (by decide) rfl (pNo_out k2 _)⟩)
  · rw [f 226 b (by decide) rfl (pNo_out k3 _), f 229 (4470 + 5 * b) (by decide) rfl (pNo_out k2 _)]
    exact h.2 b hb
def kAll (L : List (Nat × Nat)) : Bool := kTape L && (kNow L && (kImg L && (kTk L && (kPn L && kPi L))))
theorem rA_fr (f : pFr L M N) (k : kAll L = true) (h : rA M) : rA N := by
  unfold kAll at k
  simp only [Bool.and_eq_true] at k
  obtain ⟨k1, k2, k3, k4, k5, k6⟩ := k
  exact ⟨rTape_fr f k1 h.1, rNow_fr f k2 h.2.1, rImg_fr f k3 h.2.2.1, rTk_fr f k4 h.2.2.2.1, rPn_fr f k5 h.2.2.2.2.1, rPi_fr f k6 h.2.2.2.2.2⟩
/-- all but what is told of boys, days, state -/
theorem rA_now (f : pFr L M N) (k : (kTape L && (kImg L && (kTk L && (kPn L && kPi L)))) = true) (h : rA M) (hn : rNow N) : rA N := by
  simp only [Bool.and_eq_true] at k
  obtain ⟨k1, k3, k4, k5, k6⟩ := k
  exact ⟨rTape_fr f k1 h.1, hn, rImg_fr f k3 h.2.2.1, rTk_fr f k4 h.2.2.2.1, rPn_fr f k5 h.2.2.2.2.1, rPi_fr f k6 h.2.2.2.2.2⟩
end RA
