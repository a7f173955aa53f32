/-! the abstract machine's cells beside the machine's -/
/-- the words that stay good for callees, and those of nest mates -/
def aNst : Cond → Bool
  | .fieldLinkNest .. => true
  | .methodLinkNest .. => true
  | _ => false
def aLT : List Cond := lw_tbl.filter fun w => goodWord w || aNst w
def aGL : List Cond := lw_tbl.filter goodWord
theorem aUs {w : Cond} (h : w ∈ lw_tbl) (hu : (goodWord w || aNst w) = true) : w ∈ aLT := List.mem_filter.mpr ⟨h, hu⟩
theorem aGs {w : Cond} (h : w ∈ lw_tbl) (hu : goodWord w = true) : w ∈ aGL := List.mem_filter.mpr ⟨h, hu⟩
theorem aGL_LT {w : Cond} (h : w ∈ aGL) : w ∈ aLT := aUs (List.mem_filter.mp h).1 (by rw [(List.mem_filter.mp h).2]; rfl)
/-- what the tables say of the classes -/
theorem aCls_in : ∀ (ci : Nat) (q : vw_C), vwCl[ci]? = some q → ∀ w ∈ u_ws q.1 q.2.1 q.2.2, w ∈ aLT := by
  intro ci q hq
  match ci, hq with
  | 0, hq => cases hq; decide +kernel
  | 1, hq => cases hq; decide +kernel
  | 2, hq => cases hq; decide +kernel
  | 3, hq => cases hq; decide +kernel
  | 4, hq => cases hq; decide +kernel
  | 5, hq => cases hq; decide +kernel
  | 6, hq => cases hq; decide +kernel
  | 7, hq => cases hq; decide +kernel
  | 8, hq => cases hq; decide +kernel
  | 9, hq => cases hq; decide +kernel
  | 10, hq => cases hq; decide +kernel
  | 11, hq => cases hq; decide +kernel
  | 12, hq => cases hq; decide +kernel
  | k + 13, hq => simp [vwCl] at hq
def aTy (ci k : Nat) : FieldType := (aTys.getD ci (fun _ => .int)) k
/-- the type by its code -/
def aTyOk (c : Nat) (t : FieldType) : Bool := match c, t with
  | 0, .int => true
  | 1, .boolean => true
  | 2, .object _ => true
  | 2, .array _ => true
  | _, _ => false
theorem aCls_ok : ∀ (ci : Nat) (q : vw_C), vwCl[ci]? = some q → q.2.2 = aNF ci ∧ (∀ a, a < q.2.2 → ∀ b, b < q.2.2 → a ≠ b → (q.2.1 a).2.1 ≠ (q.2.1 b).2.1) ∧ ∀ k, k < q.2.2 → parseFieldDescriptor (q.2.1 k).2.2.1 = some (aTy ci k) ∧ aTyOk (aFt ci k) (aTy ci k) = true := by
  intro ci q hq
  match ci, hq with
  | 0, hq => cases hq; decide +kernel
  | 1, hq => cases hq; decide +kernel
  | 2, hq => cases hq; decide +kernel
  | 3, hq => cases hq; decide +kernel
  | 4, hq => cases hq; decide +kernel
  | 5, hq => cases hq; decide +kernel
  | 6, hq => cases hq; decide +kernel
  | 7, hq => cases hq; decide +kernel
  | 8, hq => cases hq; decide +kernel
  | 9, hq => cases hq; decide +kernel
  | 10, hq => cases hq; decide +kernel
  | 11, hq => cases hq; decide +kernel
  | 12, hq => cases hq; decide +kernel
  | k + 13, hq => simp [vwCl] at hq
theorem aCls_all {ci : Nat} (h : ci < 13) : ∃ q : vw_C, vwCl[ci]? = some q := by
  have : ci < vwCl.length := h
  exact ⟨_, List.getElem?_eq_getElem this⟩
/-- a value, a field, a cell, the world: at addresses ad -/
def aCv (ad : Nat → Nat) : Value → Value
  | .ref r => .ref (ad r)
  | v => v
def aFv (ad : Nat → Nat) (c : aK) (f : Nat → Int32) (ci j : Nat) : Value := if aFt ci j = 2 then va_rf ((c.2.2 j).map ad) else .int (f j)
def aFs (ad : Nat → Nat) (c : aK) (f : Nat → Int32) (ci : Nat) : List Value := (List.range (aNF ci)).map (aFv ad c f ci)
def aElF (cA : Nat → ClassId) (ad : Nat → Nat) (c : aK) (f : Nat → Int32) : va_E :=
  if c.1 < 100 then .inr (c.1, aFs ad c f c.1)
  else if c.1 < 102 then .inl (cA (c.1 - 100), c.2.1, .inl f)
  else .inl (cA (c.1 - 100), c.2.1, .inr (.inr (.inr (.inr (fun j => (c.2.2 j).map ad)))))
def aEl (cA : Nat → ClassId) (ad : Nat → Nat) (h : aH) (k : Nat) : va_E := aElF cA ad (h.2.2.1 k) (h.2.2.2 k)
def aW (cA : Nat → ClassId) (ad : Nat → Nat) (h : aH) : va_W := (List.range h.1).map fun k => (ad k, aEl cA ad h k)
theorem aW_at {cA : Nat → ClassId} {ad : Nat → Nat} {h : aH} {k : Nat} (hk : k < h.1) : (aW cA ad h)[k]? = some (ad k, aEl cA ad h k) := by
  unfold aW
  rw [List.getElem?_map, List.getElem?_range hk]
  rfl
theorem aW_len (cA : Nat → ClassId) (ad : Nat → Nat) (h : aH) : (aW cA ad h).length = h.1 := by
  unfold aW
  rw [List.length_map, List.length_range]
theorem aFs_at {ad : Nat → Nat} {c : aK} {f : Nat → Int32} {ci j : Nat} (hj : j < aNF ci) : (aFs ad c f ci)[j]? = some (aFv ad c f ci j) := by
  unfold aFs
  rw [List.getElem?_map, List.getElem?_range hj]
  rfl
theorem aFs_len (ad : Nat → Nat) (c : aK) (f : Nat → Int32) (ci : Nat) : (aFs ad c f ci).length = aNF ci := by
  unfold aFs
  rw [List.length_map, List.length_range]
theorem aElF_obj {cA : Nat → ClassId} {ad : Nat → Nat} {c : aK} {f : Nat → Int32} {ci : Nat} (hc : c.1 = ci) (hl : ci < 100) : aElF cA ad c f = .inr (ci, aFs ad c f ci) := by
  subst hc
  unfold aElF
  rw [if_pos hl]
theorem aElF_num {cA : Nat → ClassId} {ad : Nat → Nat} {c : aK} {f : Nat → Int32} {t : Nat} (hc : c.1 = 100 + t) (hl : t < 2) : aElF cA ad c f = .inl (cA t, c.2.1, .inl f) := by
  unfold aElF
  rw [if_neg (by omega), if_pos (by omega), hc, Nat.add_sub_cancel_left]
theorem aElF_ref {cA : Nat → ClassId} {ad : Nat → Nat} {c : aK} {f : Nat → Int32} {t : Nat} (hc : c.1 = 100 + t) (hl : 2 ≤ t) : aElF cA ad c f = .inl (cA t, c.2.1, .inr (.inr (.inr (.inr (fun j => (c.2.2 j).map ad))))) := by
  unfold aElF
  rw [if_neg (by omega), if_neg (by omega), hc, Nat.add_sub_cancel_left]
/-- a world in which one cell was changed -/
theorem aW_set {cA : Nat → ClassId} {ad : Nat → Nat} {h h' : aH} {a : Nat} {e : va_E} (ha : a < h.1) (hn : h'.1 = h.1) (he : aEl cA ad h' a = e) (ho : ∀ b, b ≠ a → aEl cA ad h' b = aEl cA ad h b) : (aW cA ad h).set a (ad a, e) = aW cA ad h' := by
  apply List.ext_getElem?
  intro j
  by_cases hj : j < h.1
  · rw [aW_at (by omega)]
    by_cases e1 : j = a
    · subst e1
      rw [List.getElem?_set_self (by rw [aW_len]; exact hj), he]
    · rw [List.getElem?_set_ne (fun q => e1 q.symm), aW_at hj, ho j e1]
  · have h1 : ((aW cA ad h).set a (ad a, e)).length = h.1 := by rw [List.length_set, aW_len]
    rw [List.getElem?_eq_none (by omega), List.getElem?_eq_none (by rw [aW_len]; omega)]
theorem aPut_ne {M : Nat → Nat → Int32} {a j : Nat} {x : Int32} {b : Nat} (h : b ≠ a) : aPut M a j x b = M b := by
  funext i
  unfold aPut
  rw [if_neg h]
theorem aPut_self {M : Nat → Nat → Int32} {a j : Nat} {x : Int32} : aPut M a j x a = upd (M a) j x := by
  funext i
  unfold aPut upd
  rw [if_pos rfl]
theorem aRow_ne {M : Nat → Nat → Int32} {a : Nat} {f : Nat → Int32} {b : Nat} (h : b ≠ a) : aRow M a f b = M b := by
  unfold aRow
  rw [if_neg h]
theorem aRow_self {M : Nat → Nat → Int32} {a : Nat} {f : Nat → Int32} : aRow M a f a = f := by
  unfold aRow
  rw [if_pos rfl]
/-- numbers of an array -/
theorem aW_row {cA : Nat → ClassId} {ad : Nat → Nat} {h : aH} {a t : Nat} {M : Nat → Nat → Int32} {f : Nat → Int32} (ha : a < h.1) (hc : (h.2.2.1 a).1 = 100 + t) (ht : t < 2) (hf : M a = f) (ho : ∀ b, b ≠ a → M b = h.2.2.2 b) : (aW cA ad h).set a (ad a, .inl (cA t, (h.2.2.1 a).2.1, .inl f)) = aW cA ad (h.1, h.2.1, h.2.2.1, M) := by
  refine aW_set ha rfl ?_ (fun b hb => ?_)
  · show aElF cA ad (h.2.2.1 a) (M a) = _
    rw [aElF_num (t := t) hc ht, hf]
  · show aElF cA ad (h.2.2.1 b) (M b) = aElF cA ad (h.2.2.1 b) (h.2.2.2 b)
    rw [ho b hb]
theorem aFs_set {ad : Nat → Nat} {c c' : aK} {f f' : Nat → Int32} {ci k : Nat} {v : Value} (hv : aFv ad c' f' ci k = v) (ho : ∀ j, j ≠ k → aFv ad c' f' ci j = aFv ad c f ci j) : (aFs ad c f ci).set k v = aFs ad c' f' ci := by
  apply List.ext_getElem?
  intro j
  by_cases hj : j < aNF ci
  · rw [aFs_at hj]
    by_cases e1 : j = k
    · subst e1
      rw [List.getElem?_set_self (by rw [aFs_len]; exact hj), hv]
    · rw [List.getElem?_set_ne (fun q => e1 q.symm), aFs_at hj, ho j e1]
  · rw [List.getElem?_eq_none (by rw [List.length_set, aFs_len]; omega), List.getElem?_eq_none (by rw [aFs_len]; omega)]
/-- a number of an object -/
theorem aW_num {cA : Nat → ClassId} {ad : Nat → Nat} {h : aH} {a ci k : Nat} {x : Int32} (ha : a < h.1) (hc : (h.2.2.1 a).1 = ci) (hl : ci < 100) (ht : aFt ci k ≠ 2) : (aW cA ad h).set a (ad a, .inr (ci, (aFs ad (h.2.2.1 a) (h.2.2.2 a) ci).set k (.int x))) = aW cA ad (h.1, h.2.1, h.2.2.1, aPut h.2.2.2 a k x) := by
  refine aW_set ha rfl ?_ (fun b hb => ?_)
  · show aElF cA ad (h.2.2.1 a) (aPut h.2.2.2 a k x a) = _
    rw [aElF_obj hc hl, aFs_set (c' := h.2.2.1 a) (f' := aPut h.2.2.2 a k x a)]
    · unfold aFv
      rw [if_neg ht]
      simp [aPut]
    · intro j hj
      unfold aFv
      simp [aPut, hj]
  · show aElF cA ad (h.2.2.1 b) (aPut h.2.2.2 a k x b) = aElF cA ad (h.2.2.1 b) (h.2.2.2 b)
    rw [aPut_ne hb]
theorem aSetR_ne {K : Nat → aK} {a j : Nat} {r : Option Nat} {b : Nat} (h : b ≠ a) : aSetR K a j r b = K b := by
  unfold aSetR
  rw [if_neg h]
theorem aSetR_self {K : Nat → aK} {a j : Nat} {r : Option Nat} : aSetR K a j r a = ((K a).1, (K a).2.1, va_up (K a).2.2 j r) := by
  unfold aSetR
  rw [if_pos rfl]
/-- a reference of an object -/
theorem aW_refO {cA : Nat → ClassId} {ad : Nat → Nat} {h : aH} {a ci k r : Nat} (ha : a < h.1) (hc : (h.2.2.1 a).1 = ci) (hl : ci < 100) (ht : aFt ci k = 2) : (aW cA ad h).set a (ad a, .inr (ci, (aFs ad (h.2.2.1 a) (h.2.2.2 a) ci).set k (.ref (ad r)))) = aW cA ad (h.1, h.2.1, aSetR h.2.2.1 a k (some r), h.2.2.2) := by
  refine aW_set ha rfl ?_ (fun b hb => ?_)
  · show aElF cA ad (aSetR h.2.2.1 a k (some r) a) (h.2.2.2 a) = _
    rw [aSetR_self, aElF_obj (c := ((h.2.2.1 a).1, (h.2.2.1 a).2.1, va_up (h.2.2.1 a).2.2 k (some r))) (ci := ci) hc hl, aFs_set (c' := ((h.2.2.1 a).1, (h.2.2.1 a).2.1, va_up (h.2.2.1 a).2.2 k (some r))) (f' := h.2.2.2 a)]
    · unfold aFv
      rw [if_pos ht]
      simp [va_up, va_rf]
    · intro j hj
      unfold aFv
      simp [va_up, hj]
  · show aElF cA ad (aSetR h.2.2.1 a k (some r) b) (h.2.2.2 b) = aElF cA ad (h.2.2.1 b) (h.2.2.2 b)
    rw [aSetR_ne hb]
/-- a reference of an array -/
theorem aW_refA {cA : Nat → ClassId} {ad : Nat → Nat} {h : aH} {a t k r : Nat} (ha : a < h.1) (hc : (h.2.2.1 a).1 = 100 + t) (ht : 2 ≤ t) : (aW cA ad h).set a (ad a, .inl (cA t, (h.2.2.1 a).2.1, .inr (.inr (.inr (.inr (va_up (fun j => ((h.2.2.1 a).2.2 j).map ad) k (some (ad r)))))))) = aW cA ad (h.1, h.2.1, aSetR h.2.2.1 a k (some r), h.2.2.2) := by
  refine aW_set ha rfl ?_ (fun b hb => ?_)
  · show aElF cA ad (aSetR h.2.2.1 a k (some r) a) (h.2.2.2 a) = _
    rw [aSetR_self, aElF_ref (c := ((h.2.2.1 a).1, (h.2.2.1 a).2.1, va_up (h.2.2.1 a).2.2 k (some r))) (t := t) hc ht]
    have e : (fun j => (va_up (h.2.2.1 a).2.2 k (some r) j).map ad) = va_up (fun j => ((h.2.2.1 a).2.2 j).map ad) k (some (ad r)) := by
      funext j
      unfold va_up
      by_cases e1 : j = k
      · simp [e1]
      · simp [e1]
    rw [← e]
  · show aElF cA ad (aSetR h.2.2.1 a k (some r) b) (h.2.2.2 b) = aElF cA ad (h.2.2.1 b) (h.2.2.2 b)
    rw [aSetR_ne hb]
/-- the world when cells come: the addresses of the old ones stay -/
theorem aMap_ok {ad ad' : Nat → Nat} {x : Option Nat} (h : ∀ r, x = some r → ad' r = ad r) : x.map ad' = x.map ad := by
  cases x with
  | none => rfl
  | some r => simp [h r rfl]
theorem aElF_ad {cA : Nat → ClassId} {ad ad' : Nat → Nat} {c : aK} {f : Nat → Int32} (h : ∀ j r, c.2.2 j = some r → ad' r = ad r) : aElF cA ad' c f = aElF cA ad c f := by
  have e : ∀ j, (c.2.2 j).map ad' = (c.2.2 j).map ad := fun j => aMap_ok (h j)
  unfold aElF aFs aFv
  simp only [e]
theorem aW_new {cA : Nat → ClassId} {ad ad' : Nat → Nat} {h : aH} {n sl : Nat} {f : Nat → aK} (had : ∀ k, k < h.1 → ad' k = ad k) (hr : ∀ k, k < h.1 → ∀ j r, (h.2.2.1 k).2.2 j = some r → ad' r = ad r) :
    aW cA ad' (aNew h n sl f) = aW cA ad h ++ (List.range n).map (fun k => (ad' (h.1 + k), aElF cA ad' (f (h.1 + k)) (fun _ => 0))) := by
  apply List.ext_getElem?
  intro j
  by_cases hj : j < h.1
  · rw [List.getElem?_append_left (by rw [aW_len]; exact hj), aW_at hj, aW_at (show j < (aNew h n sl f).1 by unfold aNew; dsimp only; omega), had j hj]
    have e1 : aEl cA ad' (aNew h n sl f) j = aEl cA ad h j := by
      unfold aEl aNew
      dsimp only
      have e2 : (fun i => if h.1 ≤ j then (0 : Int32) else h.2.2.2 j i) = h.2.2.2 j := by
        funext i
        rw [if_neg (by omega)]
      rw [if_neg (by omega), e2]
      exact aElF_ad (hr j hj)
    rw [e1]
  · rw [List.getElem?_append_right (by rw [aW_len]; omega), aW_len]
    by_cases h2 : j - h.1 < n
    · rw [aW_at (show j < (aNew h n sl f).1 by unfold aNew; dsimp only; omega), List.getElem?_map, List.getElem?_range h2]
      have e1 : h.1 + (j - h.1) = j := by omega
      have e2 : aEl cA ad' (aNew h n sl f) j = aElF cA ad' (f j) (fun _ => 0) := by
        unfold aEl aNew
        dsimp only
        have e3 : (fun i => if h.1 ≤ j then (0 : Int32) else h.2.2.2 j i) = fun _ => 0 := by
          funext i
          rw [if_pos (by omega)]
        rw [if_pos (by omega), e3]
      rw [e2]
      simp only [Option.map_some, e1]
    · rw [List.getElem?_eq_none (by rw [aW_len]; unfold aNew; dsimp only; omega), List.getElem?_eq_none (by rw [List.length_map, List.length_range]; omega)]
