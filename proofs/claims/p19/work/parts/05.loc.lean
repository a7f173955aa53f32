/-! locals, and the instructions that touch locals and stack alone -/
theorem aCv_cat (ad : Nat → Nat) (v : Value) : (aCv ad v).category = v.category := by cases v <;> rfl
theorem aSt_len (ls : List Value) (i : Nat) (v : Value) : (aSt ls i v).length = ls.length := by
  unfold aSt
  split
  · simp
  · split
    · split <;> simp
    · simp
/-- what a store leaves at another place is what was there, or nothing -/
theorem aSt_ne {ls : List Value} {i j : Nat} {v u : Value} (h : (aSt ls i v)[j]? = some u) (hj : j ≠ i) (hu : u ≠ aD) : ls[j]? = some u ∧ ¬ (j + 1 = i ∧ u.category = 2) := by
  unfold aSt at h
  split at h
  · rw [List.getElem?_set_ne (fun q => hj q.symm)] at h
    exact ⟨h, fun q => by omega⟩
  · rename_i k
    split at h
    · rename_i w hw
      split at h
      · rw [List.getElem?_set_ne (fun q => hj q.symm)] at h
        by_cases e : j = k
        · subst e
          have hl : j < ls.length := (List.getElem?_eq_some_iff.mp hw).1
          rw [List.getElem?_set_self hl] at h
          cases h
          exact absurd rfl hu
        · rw [List.getElem?_set_ne (fun q => e q.symm)] at h
          exact ⟨h, fun q => by omega⟩
      · rename_i hc
        rw [List.getElem?_set_ne (fun q => hj q.symm)] at h
        refine ⟨h, fun q => ?_⟩
        have e : j = k := by omega
        subst e
        rw [hw] at h
        cases h
        exact hc q.2
    · rename_i hw
      rw [List.getElem?_set_ne (fun q => hj q.symm)] at h
      refine ⟨h, fun q => ?_⟩
      have e : j = k := by omega
      subst e
      rw [hw] at h
      cases h
theorem aSt_self {ls : List Value} {i : Nat} {v u : Value} (h : (aSt ls i v)[i]? = some u) : u = v := by
  have hl : i < ls.length := by
    have := (List.getElem?_eq_some_iff.mp h).1
    rw [aSt_len] at this
    exact this
  unfold aSt at h
  split at h
  · rw [List.getElem?_set_self hl] at h
    exact (Option.some.inj h).symm
  · split at h
    · split at h
      · rw [List.getElem?_set_self (by simpa using hl)] at h
        exact (Option.some.inj h).symm
      · rw [List.getElem?_set_self hl] at h
        exact (Option.some.inj h).symm
    · rw [List.getElem?_set_self hl] at h
      exact (Option.some.inj h).symm
/-- the locals beside the machine's -/
def lvR (LS : Array Slot) (nL : Nat) (ad : Nat → Nat) (ls : List Value) : Prop := LS.size = nL ∧ lv_wf LS ∧ ls.length = nL ∧ ∀ (i : Nat) (v : Value), ls[i]? = some v → v ≠ aD → LS[i]? = some (.val (aCv ad v))
def lvl (ad : Nat → Nat) (ls : List Value) : List (Nat × Value) := (List.range ls.length).filterMap fun i => match ls[i]? with
  | some v => if v = aD then none else some (i, aCv ad v)
  | none => none
theorem lvl_mem {ad : Nat → Nat} {ls : List Value} {q : Nat × Value} (h : q ∈ lvl ad ls) : ∃ v, ls[q.1]? = some v ∧ v ≠ aD ∧ q.2 = aCv ad v := by
  unfold lvl at h
  obtain ⟨i, -, hi⟩ := List.mem_filterMap.mp h
  split at hi
  · rename_i v hv
    split at hi
    · cases hi
    · rename_i hn
      cases hi
      exact ⟨v, hv, hn, rfl⟩
  · cases hi
theorem lvl_in {ad : Nat → Nat} {ls : List Value} {i : Nat} {v : Value} (h : ls[i]? = some v) (hv : v ≠ aD) : (i, aCv ad v) ∈ lvl ad ls := by
  unfold lvl
  refine List.mem_filterMap.mpr ⟨i, List.mem_range.mpr (List.getElem?_eq_some_iff.mp h).1, ?_⟩
  rw [h]
  dsimp only
  rw [if_neg hv]
theorem lvR.has {LS : Array Slot} {nL : Nat} {ad : Nat → Nat} {ls : List Value} (h : lvR LS nL ad ls) : lv_has LS nL (lvl ad ls) := ⟨h.1, h.2.1, fun q hq => by
  obtain ⟨v, h1, h2, h3⟩ := lvl_mem hq
  rw [h3]
  exact h.2.2.2 _ _ h1 h2⟩
theorem lvR.at {LS : Array Slot} {nL : Nat} {ad : Nat → Nat} {ls : List Value} (h : lvR LS nL ad ls) {i : Nat} {v : Value} (hi : ls[i]? = some v) (hv : v ≠ aD) : LS[i]? = some (.val (aCv ad v)) := h.2.2.2 i v hi hv
/-- behind a store of one slot -/
theorem lvR.st1 {LS LS' : Array Slot} {nL : Nat} {ad : Nat → Nat} {ls : List Value} (h : lvR LS nL ad ls) {i : Nat} {v : Value} (h' : lv_has LS' nL ((i, aCv ad v) :: (lvl ad ls).filter (fun q => !(q.1 == i) && !(q.1 + 1 == i && q.2.category == 2)))) : lvR LS' nL ad (aSt ls i v) := by
  refine ⟨h'.1, h'.2.1, by rw [aSt_len]; exact h.2.2.1, fun j u hj hu => ?_⟩
  by_cases e : j = i
  · subst e
    rw [aSt_self hj]
    exact h'.2.2 (j, aCv ad v) List.mem_cons_self
  · obtain ⟨h1, h2⟩ := aSt_ne hj e hu
    refine h'.2.2 (j, aCv ad u) (List.mem_cons_of_mem _ (List.mem_filter.mpr ⟨lvl_in h1 hu, ?_⟩))
    have h3 : ¬ (j + 1 = i ∧ (aCv ad u).category = 2) := by rw [aCv_cat]; exact h2
    by_cases q1 : j + 1 = i
    · have q2 : ¬ (aCv ad u).category = 2 := fun q => h3 ⟨q1, q⟩
      simp [e, q2]
    · simp [e, q1]
/-- behind a store of two slots -/
theorem lvR.st2 {LS LS' : Array Slot} {nL : Nat} {ad : Nat → Nat} {ls : List Value} (h : lvR LS nL ad ls) {i : Nat} {v : Value} (h' : lv_has LS' nL ((i, aCv ad v) :: (lvl ad ls).filter (fun q => !(q.1 == i) && (!(q.1 == i + 1) && !(q.1 + 1 == i && q.2.category == 2))))) : lvR LS' nL ad ((aSt ls i v).set (i + 1) aD) := by
  refine ⟨h'.1, h'.2.1, by rw [List.length_set, aSt_len]; exact h.2.2.1, fun j u hj hu => ?_⟩
  by_cases e2 : j = i + 1
  · subst e2
    have hl : i + 1 < (aSt ls i v).length := by
      have := (List.getElem?_eq_some_iff.mp hj).1
      rwa [List.length_set] at this
    rw [List.getElem?_set_self hl] at hj
    cases hj
    exact absurd rfl hu
  · rw [List.getElem?_set_ne (fun q => e2 q.symm)] at hj
    by_cases e : j = i
    · subst e
      rw [aSt_self hj]
      exact h'.2.2 (j, aCv ad v) List.mem_cons_self
    · obtain ⟨h1, h2⟩ := aSt_ne hj e hu
      refine h'.2.2 (j, aCv ad u) (List.mem_cons_of_mem _ (List.mem_filter.mpr ⟨lvl_in h1 hu, ?_⟩))
      have h3 : ¬ (j + 1 = i ∧ (aCv ad u).category = 2) := by rw [aCv_cat]; exact h2
      by_cases q1 : j + 1 = i
      · have q2 : ¬ (aCv ad u).category = 2 := fun q => h3 ⟨q1, q⟩
        simp [e, e2, q2]
      · simp [e, e2, q1]
theorem lvR.ad {LS : Array Slot} {nL : Nat} {ad ad' : Nat → Nat} {ls : List Value} (h : lvR LS nL ad ls) (he : ∀ v ∈ ls, aCv ad' v = aCv ad v) : lvR LS nL ad' ls := ⟨h.1, h.2.1, h.2.2.1, fun i v hi hv => by
  rw [he v (List.mem_of_getElem? hi)]
  exact h.2.2.2 i v hi hv⟩
