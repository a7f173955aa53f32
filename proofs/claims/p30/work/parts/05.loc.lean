/-! locals, and the instructions that touch locals and stack alone -/
theorem aCv_cat (ad : Nat → Nat) (v : Value) : (aCv ad v).category = v.category := by cases v <;> rfl
theorem aSt_len (ls : List Value) (i : Nat) (v : Value) : (aSt ls i v).length = ls.length := by
  unfold aSt
  split
  · simp
  · split
    · split <;> simp
    · simp
/-- what a store leaves at another place is what was there, or nothing -/
theorem aSt_ne {ls : List Value} {i j : Nat} {v u : Value} (h : (aSt ls i v)[j]? = some u) (hj : j ≠ i) (hu : u ≠ aD) : ls[j]? = some u ∧ ¬ (j + 1 = i ∧ u.category = 2) := by
  unfold aSt at h
  split at h
  · rw [List.getElem?_set_ne (fun q => hj q.symm)] at h
    exact ⟨h, fun q => by omega⟩
  · rename_i k
    split at h
    · rename_i w hw
      split at h
      · rw [List.getElem?_set_ne (fun q => hj q.symm)] at h
        by_cases e : j = k
        · subst e
          have hl : j < ls.length := (List.getElem?_eq_some_iff.mp hw).1
          rw [List.getElem?_set_self hl] at h
          cases h
          exact absurd rfl hu
        · rw [List.getElem?_set_ne (fun q => e q.symm)] at h
          exact ⟨h, fun q => by omega⟩
      · rename_i hc
        rw [List.getElem?_set_ne (fun q => hj q.symm)] at h
        refine ⟨h, fun q => ?_⟩
        have e : j = k := by omega
        subst e
        rw [hw] at h
        cases h
        exact hc q.2
    · rename_i hw
      rw [List.getElem?_set_ne (fun q => hj q.symm)] at h
      refine ⟨h, fun q => ?_⟩
      have e : j = k := by omega
      subst e
      rw [hw] at h
      cases h
theorem aSt_self {ls : List Value} {i : Nat} {v u : Value} (h : (aSt ls i v)[i]? = some u) : u = v := by
  have hl : i < ls.length := by
    have := (List.getElem?_eq_some_iff.mp h).1
    rw [aSt_len] at this
    exact this
  unfold aSt at h
  split at h
  · rw [List.getElem?_set_self hl] at h
    exact (Option.some.inj h).symm
  · split at h
    · split at h
      · rw [List.getElem?_set_self (by simpa using hl)] at h
        exact (Option.some.inj h).symm
      · rw [List.getElem?_set_self hl] at h
        exact (Option.some.inj h).symm
    · rw [List.getElem?_set_self hl] at h
      exact (Option.some.inj h).symm
/-- the locals beside the machine's -/
def lvR (LS : Array Slot) (nL : Nat) (ad : Nat → Nat) (ls : List Value) : Prop := LS.size = nL ∧ lv_wf LS ∧ ls.length = nL ∧ ∀ (i : Nat) (v : Value), ls[i]? = some v → v ≠ aD → LS[i]? = some (.val (aCv ad v))
def lvl (ad : Nat → Nat) (ls : List Value) : List (Nat × Value) := (List.range ls.length).filterMap fun i => match ls[i]? with
  | some v => if v = aD then none else some (i, aCv ad v)
  | none => none
theorem lvl_mem {ad : Nat → Nat} {ls : List Value} {q : Nat × Value} (h : q ∈ lvl ad ls) : ∃ v, ls[q.1]? = some v ∧ v ≠ aD ∧ q.2 = aCv ad v := by
  unfold lvl at h
  obtain ⟨i, -, hi⟩ := List.mem_filterMap.mp h
  split at hi
  · rename_i v hv
    split at hi
    · cases hi
    · rename_i hn
      cases hi
      exact ⟨v, hv, hn, rfl⟩
  · cases hi
theorem lvl_in {ad : Nat → Nat} {ls : List Value} {i : Nat} {v : Value} (h : ls[i]? = some v) (hv : v ≠ aD) : (i, aCv ad v) ∈ lvl ad ls := by
  unfold lvl
  refine List.mem_filterMap.mpr ⟨i, List.mem_range.mpr (List.getElem?_eq_some_iff.mp h).1, ?_⟩
  rw [h]
  dsimp only
  rw [if_neg hv]
theorem lvR.has {LS : Array Slot} {nL : Nat} {ad : Nat → Nat} {ls : List Value} (h : lvR LS nL ad ls) : lv_has LS nL (lvl ad ls) := ⟨h.1, h.2.1, fun q hq => by
  obtain ⟨v, h1, h2, h3⟩ := lvl_mem hq
  rw [h3]
  exact h.2.2.2 _ _ h1 h2⟩
theorem lvR.at {LS : Array Slot} {nL : Nat} {ad : Nat → Nat} {ls : List Value} (h : lvR LS nL ad ls) {i : Nat} {v : Value} (hi : ls[i]? = some v) (hv : v ≠ aD) : LS[i]? = some (.val (aCv ad v)) := h.2.2.2 i v hi hv
/-- behind a store of one slot -/
theorem lvR.st1 {LS LS' : Array Slot} {nL : Nat} {ad : Nat → Nat} {ls : List Value} (h : lvR LS nL ad ls) {i : Nat} {v : Value} (h' : lv_has LS' nL ((i, aCv ad v) :: (lvl ad ls).filter (fun q => !(q.1 == i) && !(q.1 + 1 == i && q.2.category == 2)))) : lvR LS' nL ad (aSt ls i v) := by
  refine ⟨h'.1, h'.2.1, by rw [aSt_len]; exact h.2.2.1, fun j u hj hu => ?_⟩
  by_cases e : j = i
  · subst e
    rw [aSt_self hj]
    exact h'.2.2 (j, aCv ad v) List.mem_cons_self
  · obtain ⟨h1, h2⟩ := aSt_ne hj e hu
    refine h'.2.2 (j, aCv ad u) (List.mem_cons_of_mem _ (List.mem_filter.mpr ⟨lvl_in h1 hu, ?_⟩))
    have h3 : ¬ (j + 1 = i ∧ (aCv ad u).category = 2) := by rw [aCv_cat]; exact h2
    by_cases q1 : j + 1 = i
    · have q2 : ¬ (aCv ad u).category = 2 := fun q => h3 ⟨q1, q⟩
      simp [e, q2]
    · simp [e, q1]
/-- behind a store of two slots -/
theorem lvR.st2 {LS LS' : Array Slot} {nL : Nat} {ad : Nat → Nat} {ls : List Value} (h : lvR LS nL ad ls) {i : Nat} {v : Value} (h' : lv_has LS' nL ((i, aCv ad v) :: (lvl ad ls).filter (fun q => !(q.1 == i) && (!(q.1 == i + 1) && !(q.1 + 1 == i && q.2.category == 2))))) : lvR LS' nL ad ((aSt ls i v).set (i + 1) aD) := by
  refine ⟨h'.1, h'.2.1, by rw [List.length_set, aSt_len]; exact h.2.2.1, fun j u hj hu => ?_⟩
  by_cases e2 : j = i + 1
  · subst e2
    have hl : i + 1 < (aSt ls i v).length := by
      have := (List.getElem?_eq_some_iff.mp hj).1
      rwa [List.length_set] at this
    rw [List.getElem?_set_self hl] at hj
    cases hj
    exact absurd rfl hu
  · rw [List.getElem?_set_ne (fun q => e2 q.symm)] at hj
    by_cases e : j = i
    · subst e
      rw [aSt_self hj]
      exact h'.2.2 (j, aCv ad v) List.mem_cons_self
    · obtain ⟨h1, h2⟩ := aSt_ne hj e hu
      refine h'.2.2 (j, aCv ad u) (List.mem_cons_of_mem _ (List.mem_filter.mpr ⟨lvl_in h1 hu, ?_⟩))
      have h3 : ¬ (j + 1 = i ∧ (aCv ad u).category = 2) := by rw [aCv_cat]; exact h2
      by_cases q1 : j + 1 = i
      · have q2 : ¬ (aCv ad u).category = 2 := fun q => h3 ⟨q1, q⟩
        simp [e, e2, q2]
      · simp [e, e2, q1]
theorem lvR.ad {LS : Array Slot} {nL : Nat} {ad ad' : Nat → Nat} {ls : List Value} (h : lvR LS nL ad ls) (he : ∀ v ∈ ls, aCv ad' v = aCv ad v) : lvR LS nL ad' ls := ⟨h.1, h.2.1, h.2.2.1, fun i v hi hv => by
  rw [he v (List.mem_of_getElem? hi)]
  exact h.2.2.2 i v hi hv⟩
section SIMP
variable {p : Program} {l : Launch} {e : Env} {R : Room} {s : State} {m : MethodId} {args : Array Value} {below : List Frame} {meth : Method} {c : Code} {H : Heap} {locs : List Loc} {cells slots : Nat} {Q : State → Prop}
variable {cc : ByteArray} {pc len nL b : Nat} {LS : Array Slot} {ad : Nat → Nat} {own : String} {ini : Bool} {spc : List Nat} {real : aI}

theorem sP_iadd (hx : p.tables.exec = Jvm.exec) (hb : c.code = cc) (hown : s.vm.findClass own = some m.cls) (hts : ∀ w ∈ aLT, w.before args s = true) {ls st ls' st' : List Value}
    (haP : aP .iadd ls st = some (ls', st')) (hok : aOk own ini spc b pc real len .iadd = true) (hdg : decode cc pc = .ok (real, len)) (hL : lvR LS nL ad ls)
    (kk : ∀ LS', lvR LS' nL ad ls' → W p l e R s m args below meth c H locs cells slots Q (F0 m (pc + len) LS' (st'.map (aCv ad)))) : W p l e R s m args below meth c H locs cells slots Q (F0 m pc LS (st.map (aCv ad))) := by
  simp only [aOk, Bool.and_eq_true, decide_eq_true_eq] at hok
  obtain ⟨rfl, rfl⟩ := hok
  simp only [aP] at haP
  split at haP
  · cases haP
    exact lv_iadd hx hb hdg (kk _ hL)
  · cases haP

theorem sP_isub (hx : p.tables.exec = Jvm.exec) (hb : c.code = cc) (hown : s.vm.findClass own = some m.cls) (hts : ∀ w ∈ aLT, w.before args s = true) {ls st ls' st' : List Value}
    (haP : aP .isub ls st = some (ls', st')) (hok : aOk own ini spc b pc real len .isub = true) (hdg : decode cc pc = .ok (real, len)) (hL : lvR LS nL ad ls)
    (kk : ∀ LS', lvR LS' nL ad ls' → W p l e R s m args below meth c H locs cells slots Q (F0 m (pc + len) LS' (st'.map (aCv ad)))) : W p l e R s m args below meth c H locs cells slots Q (F0 m pc LS (st.map (aCv ad))) := by
  simp only [aOk, Bool.and_eq_true, decide_eq_true_eq] at hok
  obtain ⟨rfl, rfl⟩ := hok
  simp only [aP] at haP
  split at haP
  · cases haP
    exact lv_isub hx hb hdg (kk _ hL)
  · cases haP

theorem sP_imul (hx : p.tables.exec = Jvm.exec) (hb : c.code = cc) (hown : s.vm.findClass own = some m.cls) (hts : ∀ w ∈ aLT, w.before args s = true) {ls st ls' st' : List Value}
    (haP : aP .imul ls st = some (ls', st')) (hok : aOk own ini spc b pc real len .imul = true) (hdg : decode cc pc = .ok (real, len)) (hL : lvR LS nL ad ls)
    (kk : ∀ LS', lvR LS' nL ad ls' → W p l e R s m args below meth c H locs cells slots Q (F0 m (pc + len) LS' (st'.map (aCv ad)))) : W p l e R s m args below meth c H locs cells slots Q (F0 m pc LS (st.map (aCv ad))) := by
  simp only [aOk, Bool.and_eq_true, decide_eq_true_eq] at hok
  obtain ⟨rfl, rfl⟩ := hok
  simp only [aP] at haP
  split at haP
  · cases haP
    exact lv_imul hx hb hdg (kk _ hL)
  · cases haP

theorem sP_iand (hx : p.tables.exec = Jvm.exec) (hb : c.code = cc) (hown : s.vm.findClass own = some m.cls) (hts : ∀ w ∈ aLT, w.before args s = true) {ls st ls' st' : List Value}
    (haP : aP .iand ls st = some (ls', st')) (hok : aOk own ini spc b pc real len .iand = true) (hdg : decode cc pc = .ok (real, len)) (hL : lvR LS nL ad ls)
    (kk : ∀ LS', lvR LS' nL ad ls' → W p l e R s m args below meth c H locs cells slots Q (F0 m (pc + len) LS' (st'.map (aCv ad)))) : W p l e R s m args below meth c H locs cells slots Q (F0 m pc LS (st.map (aCv ad))) := by
  simp only [aOk, Bool.and_eq_true, decide_eq_true_eq] at hok
  obtain ⟨rfl, rfl⟩ := hok
  simp only [aP] at haP
  split at haP
  · cases haP
    exact lv_iand hx hb hdg (kk _ hL)
  · cases haP

theorem sP_ior (hx : p.tables.exec = Jvm.exec) (hb : c.code = cc) (hown : s.vm.findClass own = some m.cls) (hts : ∀ w ∈ aLT, w.before args s = true) {ls st ls' st' : List Value}
    (haP : aP .ior ls st = some (ls', st')) (hok : aOk own ini spc b pc real len .ior = true) (hdg : decode cc pc = .ok (real, len)) (hL : lvR LS nL ad ls)
    (kk : ∀ LS', lvR LS' nL ad ls' → W p l e R s m args below meth c H locs cells slots Q (F0 m (pc + len) LS' (st'.map (aCv ad)))) : W p l e R s m args below meth c H locs cells slots Q (F0 m pc LS (st.map (aCv ad))) := by
  simp only [aOk, Bool.and_eq_true, decide_eq_true_eq] at hok
  obtain ⟨rfl, rfl⟩ := hok
  simp only [aP] at haP
  split at haP
  · cases haP
    exact lv_ior hx hb hdg (kk _ hL)
  · cases haP

theorem sP_ixor (hx : p.tables.exec = Jvm.exec) (hb : c.code = cc) (hown : s.vm.findClass own = some m.cls) (hts : ∀ w ∈ aLT, w.before args s = true) {ls st ls' st' : List Value}
    (haP : aP .ixor ls st = some (ls', st')) (hok : aOk own ini spc b pc real len .ixor = true) (hdg : decode cc pc = .ok (real, len)) (hL : lvR LS nL ad ls)
    (kk : ∀ LS', lvR LS' nL ad ls' → W p l e R s m args below meth c H locs cells slots Q (F0 m (pc + len) LS' (st'.map (aCv ad)))) : W p l e R s m args below meth c H locs cells slots Q (F0 m pc LS (st.map (aCv ad))) := by
  simp only [aOk, Bool.and_eq_true, decide_eq_true_eq] at hok
  obtain ⟨rfl, rfl⟩ := hok
  simp only [aP] at haP
  split at haP
  · cases haP
    exact lv_ixor hx hb hdg (kk _ hL)
  · cases haP

theorem sP_ishl (hx : p.tables.exec = Jvm.exec) (hb : c.code = cc) (hown : s.vm.findClass own = some m.cls) (hts : ∀ w ∈ aLT, w.before args s = true) {ls st ls' st' : List Value}
    (haP : aP .ishl ls st = some (ls', st')) (hok : aOk own ini spc b pc real len .ishl = true) (hdg : decode cc pc = .ok (real, len)) (hL : lvR LS nL ad ls)
    (kk : ∀ LS', lvR LS' nL ad ls' → W p l e R s m args below meth c H locs cells slots Q (F0 m (pc + len) LS' (st'.map (aCv ad)))) : W p l e R s m args below meth c H locs cells slots Q (F0 m pc LS (st.map (aCv ad))) := by
  simp only [aOk, Bool.and_eq_true, decide_eq_true_eq] at hok
  obtain ⟨rfl, rfl⟩ := hok
  simp only [aP] at haP
  split at haP
  · cases haP
    exact lv_ishl hx hb hdg (kk _ hL)
  · cases haP

theorem sP_ishr (hx : p.tables.exec = Jvm.exec) (hb : c.code = cc) (hown : s.vm.findClass own = some m.cls) (hts : ∀ w ∈ aLT, w.before args s = true) {ls st ls' st' : List Value}
    (haP : aP .ishr ls st = some (ls', st')) (hok : aOk own ini spc b pc real len .ishr = true) (hdg : decode cc pc = .ok (real, len)) (hL : lvR LS nL ad ls)
    (kk : ∀ LS', lvR LS' nL ad ls' → W p l e R s m args below meth c H locs cells slots Q (F0 m (pc + len) LS' (st'.map (aCv ad)))) : W p l e R s m args below meth c H locs cells slots Q (F0 m pc LS (st.map (aCv ad))) := by
  simp only [aOk, Bool.and_eq_true, decide_eq_true_eq] at hok
  obtain ⟨rfl, rfl⟩ := hok
  simp only [aP] at haP
  split at haP
  · cases haP
    exact lv_ishr hx hb hdg (kk _ hL)
  · cases haP

theorem sP_ladd (hx : p.tables.exec = Jvm.exec) (hb : c.code = cc) (hown : s.vm.findClass own = some m.cls) (hts : ∀ w ∈ aLT, w.before args s = true) {ls st ls' st' : List Value}
    (haP : aP .ladd ls st = some (ls', st')) (hok : aOk own ini spc b pc real len .ladd = true) (hdg : decode cc pc = .ok (real, len)) (hL : lvR LS nL ad ls)
    (kk : ∀ LS', lvR LS' nL ad ls' → W p l e R s m args below meth c H locs cells slots Q (F0 m (pc + len) LS' (st'.map (aCv ad)))) : W p l e R s m args below meth c H locs cells slots Q (F0 m pc LS (st.map (aCv ad))) := by
  simp only [aOk, Bool.and_eq_true, decide_eq_true_eq] at hok
  obtain ⟨rfl, rfl⟩ := hok
  simp only [aP] at haP
  split at haP
  · cases haP
    exact lv_ladd hx hb hdg (kk _ hL)
  · cases haP

theorem sP_lsub (hx : p.tables.exec = Jvm.exec) (hb : c.code = cc) (hown : s.vm.findClass own = some m.cls) (hts : ∀ w ∈ aLT, w.before args s = true) {ls st ls' st' : List Value}
    (haP : aP .lsub ls st = some (ls', st')) (hok : aOk own ini spc b pc real len .lsub = true) (hdg : decode cc pc = .ok (real, len)) (hL : lvR LS nL ad ls)
    (kk : ∀ LS', lvR LS' nL ad ls' → W p l e R s m args below meth c H locs cells slots Q (F0 m (pc + len) LS' (st'.map (aCv ad)))) : W p l e R s m args below meth c H locs cells slots Q (F0 m pc LS (st.map (aCv ad))) := by
  simp only [aOk, Bool.and_eq_true, decide_eq_true_eq] at hok
  obtain ⟨rfl, rfl⟩ := hok
  simp only [aP] at haP
  split at haP
  · cases haP
    exact lv_lsub hx hb hdg (kk _ hL)
  · cases haP

theorem sP_lmul (hx : p.tables.exec = Jvm.exec) (hb : c.code = cc) (hown : s.vm.findClass own = some m.cls) (hts : ∀ w ∈ aLT, w.before args s = true) {ls st ls' st' : List Value}
    (haP : aP .lmul ls st = some (ls', st')) (hok : aOk own ini spc b pc real len .lmul = true) (hdg : decode cc pc = .ok (real, len)) (hL : lvR LS nL ad ls)
    (kk : ∀ LS', lvR LS' nL ad ls' → W p l e R s m args below meth c H locs cells slots Q (F0 m (pc + len) LS' (st'.map (aCv ad)))) : W p l e R s m args below meth c H locs cells slots Q (F0 m pc LS (st.map (aCv ad))) := by
  simp only [aOk, Bool.and_eq_true, decide_eq_true_eq] at hok
  obtain ⟨rfl, rfl⟩ := hok
  simp only [aP] at haP
  split at haP
  · cases haP
    exact lv_lmul hx hb hdg (kk _ hL)
  · cases haP

theorem sP_idiv (hx : p.tables.exec = Jvm.exec) (hb : c.code = cc) (hown : s.vm.findClass own = some m.cls) (hts : ∀ w ∈ aLT, w.before args s = true) {ls st ls' st' : List Value}
    (haP : aP .idiv ls st = some (ls', st')) (hok : aOk own ini spc b pc real len .idiv = true) (hdg : decode cc pc = .ok (real, len)) (hL : lvR LS nL ad ls)
    (kk : ∀ LS', lvR LS' nL ad ls' → W p l e R s m args below meth c H locs cells slots Q (F0 m (pc + len) LS' (st'.map (aCv ad)))) : W p l e R s m args below meth c H locs cells slots Q (F0 m pc LS (st.map (aCv ad))) := by
  simp only [aOk, Bool.and_eq_true, decide_eq_true_eq] at hok
  obtain ⟨rfl, rfl⟩ := hok
  simp only [aP] at haP
  split at haP
  · split at haP
    · cases haP
    · rename_i hne
      cases haP
      exact lv_idiv hx hb hdg hne (kk _ hL)
  · cases haP

theorem sP_irem (hx : p.tables.exec = Jvm.exec) (hb : c.code = cc) (hown : s.vm.findClass own = some m.cls) (hts : ∀ w ∈ aLT, w.before args s = true) {ls st ls' st' : List Value}
    (haP : aP .irem ls st = some (ls', st')) (hok : aOk own ini spc b pc real len .irem = true) (hdg : decode cc pc = .ok (real, len)) (hL : lvR LS nL ad ls)
    (kk : ∀ LS', lvR LS' nL ad ls' → W p l e R s m args below meth c H locs cells slots Q (F0 m (pc + len) LS' (st'.map (aCv ad)))) : W p l e R s m args below meth c H locs cells slots Q (F0 m pc LS (st.map (aCv ad))) := by
  simp only [aOk, Bool.and_eq_true, decide_eq_true_eq] at hok
  obtain ⟨rfl, rfl⟩ := hok
  simp only [aP] at haP
  split at haP
  · split at haP
    · cases haP
    · rename_i hne
      cases haP
      exact lv_irem hx hb hdg hne (kk _ hL)
  · cases haP

theorem sP_ldiv (hx : p.tables.exec = Jvm.exec) (hb : c.code = cc) (hown : s.vm.findClass own = some m.cls) (hts : ∀ w ∈ aLT, w.before args s = true) {ls st ls' st' : List Value}
    (haP : aP .ldiv ls st = some (ls', st')) (hok : aOk own ini spc b pc real len .ldiv = true) (hdg : decode cc pc = .ok (real, len)) (hL : lvR LS nL ad ls)
    (kk : ∀ LS', lvR LS' nL ad ls' → W p l e R s m args below meth c H locs cells slots Q (F0 m (pc + len) LS' (st'.map (aCv ad)))) : W p l e R s m args below meth c H locs cells slots Q (F0 m pc LS (st.map (aCv ad))) := by
  simp only [aOk, Bool.and_eq_true, decide_eq_true_eq] at hok
  obtain ⟨rfl, rfl⟩ := hok
  simp only [aP] at haP
  split at haP
  · split at haP
    · cases haP
    · rename_i hne
      cases haP
      exact lv_ldiv hx hb hdg hne (kk _ hL)
  · cases haP

theorem sP_ineg (hx : p.tables.exec = Jvm.exec) (hb : c.code = cc) (hown : s.vm.findClass own = some m.cls) (hts : ∀ w ∈ aLT, w.before args s = true) {ls st ls' st' : List Value}
    (haP : aP .ineg ls st = some (ls', st')) (hok : aOk own ini spc b pc real len .ineg = true) (hdg : decode cc pc = .ok (real, len)) (hL : lvR LS nL ad ls)
    (kk : ∀ LS', lvR LS' nL ad ls' → W p l e R s m args below meth c H locs cells slots Q (F0 m (pc + len) LS' (st'.map (aCv ad)))) : W p l e R s m args below meth c H locs cells slots Q (F0 m pc LS (st.map (aCv ad))) := by
  simp only [aOk, Bool.and_eq_true, decide_eq_true_eq] at hok
  obtain ⟨rfl, rfl⟩ := hok
  simp only [aP] at haP
  split at haP
  · cases haP
    exact lv_ineg hx hb hdg (kk _ hL)
  · cases haP

theorem sP_lcmp (hx : p.tables.exec = Jvm.exec) (hb : c.code = cc) (hown : s.vm.findClass own = some m.cls) (hts : ∀ w ∈ aLT, w.before args s = true) {ls st ls' st' : List Value}
    (haP : aP .lcmp ls st = some (ls', st')) (hok : aOk own ini spc b pc real len .lcmp = true) (hdg : decode cc pc = .ok (real, len)) (hL : lvR LS nL ad ls)
    (kk : ∀ LS', lvR LS' nL ad ls' → W p l e R s m args below meth c H locs cells slots Q (F0 m (pc + len) LS' (st'.map (aCv ad)))) : W p l e R s m args below meth c H locs cells slots Q (F0 m pc LS (st.map (aCv ad))) := by
  simp only [aOk, Bool.and_eq_true, decide_eq_true_eq] at hok
  obtain ⟨rfl, rfl⟩ := hok
  simp only [aP] at haP
  split at haP
  · cases haP
    exact W.lcmp hx hb hdg (kk _ hL)
  · cases haP

theorem sP_iushr (hx : p.tables.exec = Jvm.exec) (hb : c.code = cc) (hown : s.vm.findClass own = some m.cls) (hts : ∀ w ∈ aLT, w.before args s = true) {ls st ls' st' : List Value}
    (haP : aP .iushr ls st = some (ls', st')) (hok : aOk own ini spc b pc real len .iushr = true) (hdg : decode cc pc = .ok (real, len)) (hL : lvR LS nL ad ls)
    (kk : ∀ LS', lvR LS' nL ad ls' → W p l e R s m args below meth c H locs cells slots Q (F0 m (pc + len) LS' (st'.map (aCv ad)))) : W p l e R s m args below meth c H locs cells slots Q (F0 m pc LS (st.map (aCv ad))) := by
  simp only [aOk, Bool.and_eq_true, decide_eq_true_eq] at hok
  obtain ⟨rfl, rfl⟩ := hok
  simp only [aP] at haP
  split at haP
  · cases haP
    exact lv_iushr hx hb hdg rfl (kk _ hL)
  · cases haP

theorem sP_i2l (hx : p.tables.exec = Jvm.exec) (hb : c.code = cc) (hown : s.vm.findClass own = some m.cls) (hts : ∀ w ∈ aLT, w.before args s = true) {ls st ls' st' : List Value}
    (haP : aP .i2l ls st = some (ls', st')) (hok : aOk own ini spc b pc real len .i2l = true) (hdg : decode cc pc = .ok (real, len)) (hL : lvR LS nL ad ls)
    (kk : ∀ LS', lvR LS' nL ad ls' → W p l e R s m args below meth c H locs cells slots Q (F0 m (pc + len) LS' (st'.map (aCv ad)))) : W p l e R s m args below meth c H locs cells slots Q (F0 m pc LS (st.map (aCv ad))) := by
  simp only [aOk, Bool.and_eq_true, decide_eq_true_eq] at hok
  obtain ⟨rfl, rfl⟩ := hok
  simp only [aP] at haP
  split at haP
  · cases haP
    exact lv_i2l hx hb hdg rfl (kk _ hL)
  · cases haP

theorem sP_l2i (hx : p.tables.exec = Jvm.exec) (hb : c.code = cc) (hown : s.vm.findClass own = some m.cls) (hts : ∀ w ∈ aLT, w.before args s = true) {ls st ls' st' : List Value}
    (haP : aP .l2i ls st = some (ls', st')) (hok : aOk own ini spc b pc real len .l2i = true) (hdg : decode cc pc = .ok (real, len)) (hL : lvR LS nL ad ls)
    (kk : ∀ LS', lvR LS' nL ad ls' → W p l e R s m args below meth c H locs cells slots Q (F0 m (pc + len) LS' (st'.map (aCv ad)))) : W p l e R s m args below meth c H locs cells slots Q (F0 m pc LS (st.map (aCv ad))) := by
  simp only [aOk, Bool.and_eq_true, decide_eq_true_eq] at hok
  obtain ⟨rfl, rfl⟩ := hok
  simp only [aP] at haP
  split at haP
  · cases haP
    exact lv_l2i hx hb hdg rfl (kk _ hL)
  · cases haP

theorem sP_lshl (hx : p.tables.exec = Jvm.exec) (hb : c.code = cc) (hown : s.vm.findClass own = some m.cls) (hts : ∀ w ∈ aLT, w.before args s = true) {ls st ls' st' : List Value}
    (haP : aP .lshl ls st = some (ls', st')) (hok : aOk own ini spc b pc real len .lshl = true) (hdg : decode cc pc = .ok (real, len)) (hL : lvR LS nL ad ls)
    (kk : ∀ LS', lvR LS' nL ad ls' → W p l e R s m args below meth c H locs cells slots Q (F0 m (pc + len) LS' (st'.map (aCv ad)))) : W p l e R s m args below meth c H locs cells slots Q (F0 m pc LS (st.map (aCv ad))) := by
  simp only [aOk, Bool.and_eq_true, decide_eq_true_eq] at hok
  obtain ⟨rfl, rfl⟩ := hok
  simp only [aP] at haP
  split at haP
  · cases haP
    exact lv_lshl hx hb hdg rfl (kk _ hL)
  · cases haP

theorem sP_dup (hx : p.tables.exec = Jvm.exec) (hb : c.code = cc) (hown : s.vm.findClass own = some m.cls) (hts : ∀ w ∈ aLT, w.before args s = true) {ls st ls' st' : List Value}
    (haP : aP .dup ls st = some (ls', st')) (hok : aOk own ini spc b pc real len .dup = true) (hdg : decode cc pc = .ok (real, len)) (hL : lvR LS nL ad ls)
    (kk : ∀ LS', lvR LS' nL ad ls' → W p l e R s m args below meth c H locs cells slots Q (F0 m (pc + len) LS' (st'.map (aCv ad)))) : W p l e R s m args below meth c H locs cells slots Q (F0 m pc LS (st.map (aCv ad))) := by
  simp only [aOk, Bool.and_eq_true, decide_eq_true_eq] at hok
  obtain ⟨rfl, rfl⟩ := hok
  simp only [aP] at haP
  split at haP
  · split at haP
    · rename_i hc
      cases haP
      exact lv_dup hx hb hdg (by rw [aCv_cat]; exact hc) (kk _ hL)
    · cases haP
  · cases haP

theorem sP_pop (hx : p.tables.exec = Jvm.exec) (hb : c.code = cc) (hown : s.vm.findClass own = some m.cls) (hts : ∀ w ∈ aLT, w.before args s = true) {ls st ls' st' : List Value}
    (haP : aP .pop ls st = some (ls', st')) (hok : aOk own ini spc b pc real len .pop = true) (hdg : decode cc pc = .ok (real, len)) (hL : lvR LS nL ad ls)
    (kk : ∀ LS', lvR LS' nL ad ls' → W p l e R s m args below meth c H locs cells slots Q (F0 m (pc + len) LS' (st'.map (aCv ad)))) : W p l e R s m args below meth c H locs cells slots Q (F0 m pc LS (st.map (aCv ad))) := by
  simp only [aOk, Bool.and_eq_true, decide_eq_true_eq] at hok
  obtain ⟨rfl, rfl⟩ := hok
  simp only [aP] at haP
  split at haP
  · split at haP
    · rename_i hc
      cases haP
      exact lv_pop hx hb hdg (by rw [aCv_cat]; exact hc) (kk _ hL)
    · cases haP
  · cases haP

theorem sP_dup2 (hx : p.tables.exec = Jvm.exec) (hb : c.code = cc) (hown : s.vm.findClass own = some m.cls) (hts : ∀ w ∈ aLT, w.before args s = true) {ls st ls' st' : List Value}
    (haP : aP .dup2 ls st = some (ls', st')) (hok : aOk own ini spc b pc real len .dup2 = true) (hdg : decode cc pc = .ok (real, len)) (hL : lvR LS nL ad ls)
    (kk : ∀ LS', lvR LS' nL ad ls' → W p l e R s m args below meth c H locs cells slots Q (F0 m (pc + len) LS' (st'.map (aCv ad)))) : W p l e R s m args below meth c H locs cells slots Q (F0 m pc LS (st.map (aCv ad))) := by
  simp only [aOk, Bool.and_eq_true, decide_eq_true_eq] at hok
  obtain ⟨rfl, rfl⟩ := hok
  simp only [aP] at haP
  split at haP
  · split at haP
    · rename_i hc
      cases haP
      exact lv_dup2_11 hx hb hdg (by rw [aCv_cat]; exact hc.1) (by rw [aCv_cat]; exact hc.2) (kk _ hL)
    · cases haP
  · cases haP

theorem sP_bipush (hx : p.tables.exec = Jvm.exec) (hb : c.code = cc) (hown : s.vm.findClass own = some m.cls) (hts : ∀ w ∈ aLT, w.before args s = true) {ls st ls' st' : List Value} {v : Int}
    (haP : aP (.bipush v) ls st = some (ls', st')) (hok : aOk own ini spc b pc real len (.bipush v) = true) (hdg : decode cc pc = .ok (real, len)) (hL : lvR LS nL ad ls)
    (kk : ∀ LS', lvR LS' nL ad ls' → W p l e R s m args below meth c H locs cells slots Q (F0 m (pc + len) LS' (st'.map (aCv ad)))) : W p l e R s m args below meth c H locs cells slots Q (F0 m pc LS (st.map (aCv ad))) := by
  simp only [aP] at haP
  cases haP
  simp only [aOk] at hok
  split at hok
  · simp only [Bool.and_eq_true, decide_eq_true_eq] at hok
    obtain ⟨rfl, h2⟩ := hok
    exact lv_iconst hx hb hdg h2 (kk _ hL)
  · simp only [Bool.and_eq_true, decide_eq_true_eq] at hok
    obtain ⟨rfl, h2⟩ := hok
    exact lv_bipush hx hb hdg h2 (kk _ hL)
  · simp only [Bool.and_eq_true, decide_eq_true_eq] at hok
    obtain ⟨rfl, h2⟩ := hok
    exact lv_sipush hx hb hdg h2 (kk _ hL)
  · cases hok

theorem sP_ldc_w (hx : p.tables.exec = Jvm.exec) (hb : c.code = cc) (hown : s.vm.findClass own = some m.cls) (hts : ∀ w ∈ aLT, w.before args s = true) {ls st ls' st' : List Value} {k : Nat}
    (haP : aP (.ldc_w k) ls st = some (ls', st')) (hok : aOk own ini spc b pc real len (.ldc_w k) = true) (hdg : decode cc pc = .ok (real, len)) (hL : lvR LS nL ad ls)
    (kk : ∀ LS', lvR LS' nL ad ls' → W p l e R s m args below meth c H locs cells slots Q (F0 m (pc + len) LS' (st'.map (aCv ad)))) : W p l e R s m args below meth c H locs cells slots Q (F0 m pc LS (st.map (aCv ad))) := by
  simp only [aP] at haP
  cases haP
  simp only [aOk] at hok
  split at hok
  · simp only [Bool.and_eq_true, decide_eq_true_eq] at hok
    obtain ⟨rfl, h2⟩ := hok
    exact lv_ldc hx hb hown (hts _ (aUs (List.mem_of_getElem? h2) rfl)) hdg (kk _ hL)
  · simp only [Bool.and_eq_true, decide_eq_true_eq] at hok
    obtain ⟨rfl, h2⟩ := hok
    exact lv_ldcw hx hb hown (hts _ (aUs (List.mem_of_getElem? h2) rfl)) hdg (kk _ hL)
  · cases hok

theorem sP_ldc2_w (hx : p.tables.exec = Jvm.exec) (hb : c.code = cc) (hown : s.vm.findClass own = some m.cls) (hts : ∀ w ∈ aLT, w.before args s = true) {ls st ls' st' : List Value} {k : Nat}
    (haP : aP (.ldc2_w k) ls st = some (ls', st')) (hok : aOk own ini spc b pc real len (.ldc2_w k) = true) (hdg : decode cc pc = .ok (real, len)) (hL : lvR LS nL ad ls)
    (kk : ∀ LS', lvR LS' nL ad ls' → W p l e R s m args below meth c H locs cells slots Q (F0 m (pc + len) LS' (st'.map (aCv ad)))) : W p l e R s m args below meth c H locs cells slots Q (F0 m pc LS (st.map (aCv ad))) := by
  simp only [aP] at haP
  cases haP
  simp only [aOk] at hok
  split at hok
  · simp only [Bool.and_eq_true, decide_eq_true_eq] at hok
    obtain ⟨rfl, h2⟩ := hok
    exact lv_ldc2 hx hb hown (hts _ (aUs (List.mem_of_getElem? h2) rfl)) hdg (kk _ hL)
  · cases hok

theorem sP_lconst (hx : p.tables.exec = Jvm.exec) (hb : c.code = cc) (hown : s.vm.findClass own = some m.cls) (hts : ∀ w ∈ aLT, w.before args s = true) {ls st ls' st' : List Value} {k : Fin 2}
    (haP : aP (.lconst k) ls st = some (ls', st')) (hok : aOk own ini spc b pc real len (.lconst k) = true) (hdg : decode cc pc = .ok (real, len)) (hL : lvR LS nL ad ls)
    (kk : ∀ LS', lvR LS' nL ad ls' → W p l e R s m args below meth c H locs cells slots Q (F0 m (pc + len) LS' (st'.map (aCv ad)))) : W p l e R s m args below meth c H locs cells slots Q (F0 m pc LS (st.map (aCv ad))) := by
  simp only [aOk, Bool.and_eq_true, decide_eq_true_eq] at hok
  obtain ⟨rfl, rfl⟩ := hok
  simp only [aP] at haP
  cases haP
  exact lv_lconst hx hb hdg rfl (kk _ hL)

theorem sP_iload (hx : p.tables.exec = Jvm.exec) (hb : c.code = cc) (hown : s.vm.findClass own = some m.cls) (hts : ∀ w ∈ aLT, w.before args s = true) {ls st ls' st' : List Value} {k : Nat}
    (haP : aP (.iload k) ls st = some (ls', st')) (hok : aOk own ini spc b pc real len (.iload k) = true) (hdg : decode cc pc = .ok (real, len)) (hL : lvR LS nL ad ls)
    (kk : ∀ LS', lvR LS' nL ad ls' → W p l e R s m args below meth c H locs cells slots Q (F0 m (pc + len) LS' (st'.map (aCv ad)))) : W p l e R s m args below meth c H locs cells slots Q (F0 m pc LS (st.map (aCv ad))) := by
  simp only [aP] at haP
  split at haP
  · rename_i hk
    cases haP
    have hv := hL.at hk (by intro q; cases q)
    simp only [aOk] at hok
    split at hok
    · simp only [Bool.and_eq_true, decide_eq_true_eq] at hok
      obtain ⟨rfl, rfl⟩ := hok
      exact lv_iload hx hb hdg hv (kk _ hL)
    · simp only [Bool.and_eq_true, decide_eq_true_eq] at hok
      obtain ⟨rfl, h2⟩ := hok
      exact lv_iload_n hx hb hdg h2 hv (kk _ hL)
    · cases hok
  · cases haP

theorem sP_lload (hx : p.tables.exec = Jvm.exec) (hb : c.code = cc) (hown : s.vm.findClass own = some m.cls) (hts : ∀ w ∈ aLT, w.before args s = true) {ls st ls' st' : List Value} {k : Nat}
    (haP : aP (.lload k) ls st = some (ls', st')) (hok : aOk own ini spc b pc real len (.lload k) = true) (hdg : decode cc pc = .ok (real, len)) (hL : lvR LS nL ad ls)
    (kk : ∀ LS', lvR LS' nL ad ls' → W p l e R s m args below meth c H locs cells slots Q (F0 m (pc + len) LS' (st'.map (aCv ad)))) : W p l e R s m args below meth c H locs cells slots Q (F0 m pc LS (st.map (aCv ad))) := by
  simp only [aP] at haP
  split at haP
  · rename_i hk
    cases haP
    have hv := hL.at hk (by intro q; cases q)
    simp only [aOk] at hok
    split at hok
    · simp only [Bool.and_eq_true, decide_eq_true_eq] at hok
      obtain ⟨rfl, rfl⟩ := hok
      exact lv_lload hx hb hdg hv (kk _ hL)
    · simp only [Bool.and_eq_true, decide_eq_true_eq] at hok
      obtain ⟨rfl, h2⟩ := hok
      exact lv_lload_n hx hb hdg h2 hv (kk _ hL)
    · cases hok
  · cases haP

theorem sP_aload (hx : p.tables.exec = Jvm.exec) (hb : c.code = cc) (hown : s.vm.findClass own = some m.cls) (hts : ∀ w ∈ aLT, w.before args s = true) {ls st ls' st' : List Value} {k : Nat}
    (haP : aP (.aload k) ls st = some (ls', st')) (hok : aOk own ini spc b pc real len (.aload k) = true) (hdg : decode cc pc = .ok (real, len)) (hL : lvR LS nL ad ls)
    (kk : ∀ LS', lvR LS' nL ad ls' → W p l e R s m args below meth c H locs cells slots Q (F0 m (pc + len) LS' (st'.map (aCv ad)))) : W p l e R s m args below meth c H locs cells slots Q (F0 m pc LS (st.map (aCv ad))) := by
  simp only [aP] at haP
  split at haP
  · rename_i hk
    cases haP
    have hv := hL.at hk (by intro q; cases q)
    simp only [aOk] at hok
    split at hok
    · simp only [Bool.and_eq_true, decide_eq_true_eq] at hok
      obtain ⟨rfl, rfl⟩ := hok
      exact lv_aload hx hb hdg hv (kk _ hL)
    · simp only [Bool.and_eq_true, decide_eq_true_eq] at hok
      obtain ⟨rfl, h2⟩ := hok
      exact lv_aload_n hx hb hdg h2 hv (kk _ hL)
    · cases hok
  · cases haP

theorem sP_istore (hx : p.tables.exec = Jvm.exec) (hb : c.code = cc) (hown : s.vm.findClass own = some m.cls) (hts : ∀ w ∈ aLT, w.before args s = true) {ls st ls' st' : List Value} {k : Nat}
    (haP : aP (.istore k) ls st = some (ls', st')) (hok : aOk own ini spc b pc real len (.istore k) = true) (hdg : decode cc pc = .ok (real, len)) (hL : lvR LS nL ad ls)
    (kk : ∀ LS', lvR LS' nL ad ls' → W p l e R s m args below meth c H locs cells slots Q (F0 m (pc + len) LS' (st'.map (aCv ad)))) : W p l e R s m args below meth c H locs cells slots Q (F0 m pc LS (st.map (aCv ad))) := by
  simp only [aP] at haP
  split at haP
  · split at haP
    · rename_i hk
      cases haP
      rw [hL.2.2.1] at hk
      simp only [aOk] at hok
      split at hok
      · simp only [Bool.and_eq_true, decide_eq_true_eq] at hok
        obtain ⟨rfl, rfl⟩ := hok
        exact lv_istore hx hb hdg hL.has hk rfl (fun LS' h' => kk LS' (hL.st1 h'))
      · simp only [Bool.and_eq_true, decide_eq_true_eq] at hok
        obtain ⟨rfl, h2⟩ := hok
        exact lv_istore_n hx hb hdg h2 hL.has hk rfl (fun LS' h' => kk LS' (hL.st1 h'))
      · cases hok
    · cases haP
  · cases haP

theorem sP_astore (hx : p.tables.exec = Jvm.exec) (hb : c.code = cc) (hown : s.vm.findClass own = some m.cls) (hts : ∀ w ∈ aLT, w.before args s = true) {ls st ls' st' : List Value} {k : Nat}
    (haP : aP (.astore k) ls st = some (ls', st')) (hok : aOk own ini spc b pc real len (.astore k) = true) (hdg : decode cc pc = .ok (real, len)) (hL : lvR LS nL ad ls)
    (kk : ∀ LS', lvR LS' nL ad ls' → W p l e R s m args below meth c H locs cells slots Q (F0 m (pc + len) LS' (st'.map (aCv ad)))) : W p l e R s m args below meth c H locs cells slots Q (F0 m pc LS (st.map (aCv ad))) := by
  simp only [aP] at haP
  split at haP
  · split at haP
    · rename_i hk
      cases haP
      rw [hL.2.2.1] at hk
      simp only [aOk] at hok
      split at hok
      · simp only [Bool.and_eq_true, decide_eq_true_eq] at hok
        obtain ⟨rfl, rfl⟩ := hok
        exact lv_astore hx hb hdg hL.has hk rfl (fun LS' h' => kk LS' (hL.st1 h'))
      · simp only [Bool.and_eq_true, decide_eq_true_eq] at hok
        obtain ⟨rfl, h2⟩ := hok
        exact lv_astore_n hx hb hdg h2 hL.has hk rfl (fun LS' h' => kk LS' (hL.st1 h'))
      · cases hok
    · cases haP
  · cases haP

theorem sP_lstore (hx : p.tables.exec = Jvm.exec) (hb : c.code = cc) (hown : s.vm.findClass own = some m.cls) (hts : ∀ w ∈ aLT, w.before args s = true) {ls st ls' st' : List Value} {k : Nat}
    (haP : aP (.lstore k) ls st = some (ls', st')) (hok : aOk own ini spc b pc real len (.lstore k) = true) (hdg : decode cc pc = .ok (real, len)) (hL : lvR LS nL ad ls)
    (kk : ∀ LS', lvR LS' nL ad ls' → W p l e R s m args below meth c H locs cells slots Q (F0 m (pc + len) LS' (st'.map (aCv ad)))) : W p l e R s m args below meth c H locs cells slots Q (F0 m pc LS (st.map (aCv ad))) := by
  simp only [aP] at haP
  split at haP
  · split at haP
    · rename_i hk
      cases haP
      rw [hL.2.2.1] at hk
      simp only [aOk] at hok
      split at hok
      · simp only [Bool.and_eq_true, decide_eq_true_eq] at hok
        obtain ⟨rfl, rfl⟩ := hok
        exact lv_lstore hx hb hdg hL.has hk rfl (fun LS' h' => kk LS' (hL.st2 h'))
      · simp only [Bool.and_eq_true, decide_eq_true_eq] at hok
        obtain ⟨rfl, h2⟩ := hok
        exact lv_lstore_n hx hb hdg h2 hL.has hk rfl (fun LS' h' => kk LS' (hL.st2 h'))
      · cases hok
    · cases haP
  · cases haP

theorem sP_iinc (hx : p.tables.exec = Jvm.exec) (hb : c.code = cc) (hown : s.vm.findClass own = some m.cls) (hts : ∀ w ∈ aLT, w.before args s = true) {ls st ls' st' : List Value} {k : Nat} {n : Int}
    (haP : aP (.iinc k n) ls st = some (ls', st')) (hok : aOk own ini spc b pc real len (.iinc k n) = true) (hdg : decode cc pc = .ok (real, len)) (hL : lvR LS nL ad ls)
    (kk : ∀ LS', lvR LS' nL ad ls' → W p l e R s m args below meth c H locs cells slots Q (F0 m (pc + len) LS' (st'.map (aCv ad)))) : W p l e R s m args below meth c H locs cells slots Q (F0 m pc LS (st.map (aCv ad))) := by
  simp only [aOk, Bool.and_eq_true, decide_eq_true_eq] at hok
  obtain ⟨rfl, rfl⟩ := hok
  simp only [aP] at haP
  split at haP
  · rename_i x hk
    split at haP
    · rename_i hl
      cases haP
      rw [hL.2.2.1] at hl
      obtain ⟨j, hj⟩ := List.getElem?_of_mem (lvl_in (ad := ad) hk (by intro q; cases q))
      exact lv_iinc hx hb hdg hL.has hj rfl hl rfl (fun LS' h' => kk LS' (hL.st1 h'))
    · cases haP
  · cases haP

end SIMP
/-! what holds of the library all along: String constants, statics, the array class of rows -/
def aStr1 (a : Nat) (tx : String) (A : Nat → Prop) (U : State) (H : Heap) : Prop := va_O "java/lang/String" a A U H ∧ va_OF "java/lang/String" "coder" "B" (.int 0) a A U H ∧ ∃ v : Nat, va_OF "java/lang/String" "value" "[B" (.ref v) a A U H ∧ va_T .byte v tx.length (fun j => .int (aChr tx j)) A U H
def aLb (A : Nat → Prop) (U : State) (H : Heap) : Prop := va_Z "java/lang/String" "COMPACT_STRINGS" "Z" (.int 1) A U H ∧ va_Zq "jdk/internal/util/Preconditions" "SIOOBE_FORMATTER" "Ljava/util/function/BiFunction;" A U H
theorem aStr1.moved {a : Nat} {tx : String} {A : Nat → Prop} {u U : State} {H : Heap} (hvm : u.vm.Alike U.vm) (h : aStr1 a tx A u H) : aStr1 a tx A U H := by
  obtain ⟨h1, h2, v, h3, h4⟩ := h
  exact ⟨h1.moved hvm, h2.moved hvm, v, h3.moved hvm, h4.moved hvm⟩
theorem aStr1.kept {a : Nat} {tx : String} {A : Nat → Prop} {U : State} {H H1 : Heap} (h : aStr1 a tx A U H) (hq : ∀ a : Nat, a < H.size → ¬ A a → H1[a]? = H[a]?) : aStr1 a tx A U H1 := by
  obtain ⟨h1, h2, v, h3, h4⟩ := h
  exact ⟨h1.kept hq, h2.kept hq, v, h3.kept hq, h4.kept hq⟩
theorem aLb.moved {A : Nat → Prop} {u U : State} {H : Heap} (hvm : u.vm.Alike U.vm) (h : aLb A u H) : aLb A U H := ⟨h.1.moved hvm, h.2.moved hvm⟩
theorem aLb.kept {A : Nat → Prop} {U : State} {H H1 : Heap} (h : aLb A U H) (hq : ∀ a : Nat, a < H.size → ¬ A a → H1[a]? = H[a]?) : aLb A U H1 := ⟨h.1.kept hq, h.2.kept hq⟩
def va_AOA (ty : FieldType) (U : State) : Prop := (Cond.arrayOver (.array ty)).before #[] U = true
theorem va_AOA.use {ty : FieldType} {A : Array Value} {U : State} (h : va_AOA ty U) : (Cond.arrayOver (.array ty)).before A U = true := h
theorem va_AOA.moved {ty : FieldType} {u U : State} (hvm : u.vm.Alike U.vm) (h : va_AOA ty u) : va_AOA ty U := over_moved (a := #[]) (a' := #[]) hvm h
/-- the String constants lie at ad's places, the pool's entries name them; the statics -/
def aLib (base : Nat) (ad : Nat → Nat) (s : State) (H : Heap) : Prop := (∀ i, i < aStr.length → aStr1 (ad (90001 + i)) (aStr.getD i "") (fun q => base ≤ q) s H) ∧ (∀ own idx i, i < aStr.length → Cond.stringRef own idx (aStr.getD i "") ∈ lw_tbl → vk_R own idx (aStr.getD i "") (ad (90001 + i)) s) ∧ aLb (fun q => base ≤ q) s H ∧ va_AOA .int s
theorem aLib.ad {base : Nat} {ad ad' : Nat → Nat} {s : State} {H : Heap} (hg : ∀ i, ad' (90001 + i) = ad (90001 + i)) (h : aLib base ad s H) : aLib base ad' s H := by
  obtain ⟨h1, h2, h3⟩ := h
  refine ⟨fun i hi => ?_, fun own idx i hi hm => ?_, h3⟩
  · rw [hg]
    exact h1 i hi
  · rw [hg]
    exact h2 own idx i hi hm
theorem aLib.same {base : Nat} {ad : Nat → Nat} {u U : State} {H : Heap} (hv : U.vm = u.vm) (h : aLib base ad u H) : aLib base ad U H := by
  have hal : u.vm.Alike U.vm := by rw [hv]; exact Vm.Alike.refl _
  exact ⟨fun i hi => (h.1 i hi).moved hal, fun own idx i hi hm => vk_R.same hv (h.2.1 own idx i hi hm), h.2.2.1.moved hal, h.2.2.2.moved hal⟩
theorem aLib.warm {base : Nat} {ad : Nat → Nat} {s U : State} {H H1 : Heap} (hW : s.WarmedH U.vm) (hq : ∀ a : Nat, a < H.size → ¬ base ≤ a → H1[a]? = H[a]?) (h : aLib base ad s H) : aLib base ad U H1 :=
  ⟨fun i hi => ((h.1 i hi).kept hq).moved hW.alike, fun own idx i hi hm => vk_R.warm hW (h.2.1 own idx i hi hm), (h.2.2.1.kept hq).moved hW.alike, h.2.2.2.moved hW.alike⟩
/-! the instructions that read and write cells -/
def aTyL (cA : Nat → ClassId) : List (ClassId × FieldType) := (List.range 6).map fun t => (cA t, aAT.getD t .int)
theorem aTyL_at {cA : Nat → ClassId} {t : Nat} (ht : t < 6) : (aTyL cA)[t]? = some (cA t, aAT.getD t .int) := by
  unfold aTyL
  rw [List.getElem?_map, List.getElem?_range ht]
  rfl
/-- every reference that a cell holds is of a cell -/
def aWfh (h : aH) : Prop := ∀ k, k < h.1 → ∀ j r, (h.2.2.1 k).2.2 j = some r → r < h.1
def aRel (D : va_G) (cA : Nat → ClassId) (base : Nat) (H0 H : Heap) (locs : List Loc) (ad : Nat → Nat) (h : aH) : Prop := va_P D vwCl (aW cA ad h) H ∧ va_D (fun q => base ≤ q) (aW cA ad h) ∧ va_S (fun q => base ≤ q) H0 H locs ∧ aWfh h
/-- the script -/
def aScr (X : aX) (base : Nat) (ad : Nat → Nat) (s : State) (H0 : Heap) : Prop := va_X (ad 90000) X.1 X.2 s H0 ∧ ad 90000 < H0.size ∧ (¬ base ≤ ad 90000) ∧ aLib base ad s H0
theorem aCv_rf (ad : Nat → Nat) (o : Option Nat) : aCv ad (aRf o) = va_rf (o.map ad) := by cases o <;> rfl
theorem aIn_in {j : Int32} {n : Nat} (h : aInR j n = true) : vp_in j n := by
  unfold aInR at h
  exact vp_in_iff.mpr (of_decide_eq_true h)
theorem aAT_2 {t : Nat} (h2 : 2 ≤ t) (h5 : t < 5) : ∃ C, aAT.getD t .int = .object C := by
  rcases (show t = 2 ∨ t = 3 ∨ t = 4 by omega) with rfl | rfl | rfl
  · exact ⟨_, rfl⟩
  · exact ⟨_, rfl⟩
  · exact ⟨_, rfl⟩
section SIMQ
variable {p : Program} {l : Launch} {e : Env} {R : Room} {s : State} {m : MethodId} {args : Array Value} {below : List Frame} {meth : Method} {c : Code} {H : Heap} {locs : List Loc} {cells slots : Nat} {Q : State → Prop}
variable {cc : ByteArray} {pc len b base : Nat} {LS : Array Slot} {ad : Nat → Nat} {own : String} {ini : Bool} {spc : List Nat} {real : aI} {D : va_G} {cA : Nat → ClassId} {H0 : Heap} {X : aX} {h h' : aH} {st st' : List Value}
theorem aWaald (hexec : p.tables.exec = Jvm.exec) (hb : c.code = cc) {tys : List (ClassId × FieldType)} {ws : va_W} {a : Nat} (hK : va_K D vwCl tys s) (hP : va_P D vwCl ws H) (q0 t0 : Nat) {c0 : ClassId} {ty : FieldType} (hr : ty.isReference = true) {n : Nat} {f : Nat → Option Nat} (ha : ws[q0]? = some (a, .inl (c0, n, .inr (.inr (.inr (.inr f)))))) (ht : tys[t0]? = some (c0, ty)) {i : Int32} (hin : vp_in i n) (hdg : decode cc pc = .ok (.aaload, 1)) {rest : List Value}
    (kk : W p l e R s m args below meth c H locs cells slots Q (F0 m (pc + 1) LS (va_rf (f i.toNatClampNeg) :: rest))) : W p l e R s m args below meth c H locs cells slots Q (F0 m pc LS (.int i :: .ref a :: rest)) := by
  have hlt : i.toNatClampNeg < n := Nat.not_le.mp fun q => hin (Or.inr q)
  exact W.aald (v := va_rf (f i.toNatClampNeg)) (ty := ty) hexec hb (hP q0 _ ha) ((hK.2 t0 _ ht).1 n (fun j => va_rf (f j))) hr (fun q => by cases q) (by show ¬ (i < 0 ∨ (arrV _ _ _).slots.size ≤ _); rw [arrV_size]; exact hin) (by show (arrV _ _ _).slots[_]? = _; rw [arrV_read _ _ hlt]) rfl rfl hdg kk
theorem sQ_getfield (hx : p.tables.exec = Jvm.exec) (hb : c.code = cc) (hown : s.vm.findClass own = some m.cls) (hts : ∀ w ∈ aLT, w.before args s = true) (hK : va_K D vwCl (aTyL cA) s) {k : Nat}
    (haQ : aQ X (.getfield k) st h = some (st', h')) (hok : aOk own ini spc b pc real len (.getfield k) = true) (hdg : decode cc pc = .ok (real, len)) (hR : aRel D cA base H0 H locs ad h)
    (kk : ∀ H' locs', aRel D cA base H0 H' locs' ad h' → W p l e R s m args below meth c H' locs' cells slots Q (F0 m (pc + len) LS (st'.map (aCv ad)))) : W p l e R s m args below meth c H locs cells slots Q (F0 m pc LS (st.map (aCv ad))) := by
  simp only [aQ] at haQ
  split at haQ
  · rename_i a t
    split at haQ
    · rename_i hc
      obtain ⟨ha, hcl⟩ := hc
      cases haQ
      simp only [aOk] at hok
      split at hok
      · rename_i idx
        simp only [Bool.and_eq_true, decide_eq_true_eq] at hok
        obtain ⟨⟨⟨⟨rfl, hw⟩, hsl⟩, h13⟩, hft⟩ := hok
        obtain ⟨q, hq⟩ := aCls_all h13
        have he := aW_at (cA := cA) (ad := ad) ha
        rw [show aEl cA ad h a = _ from aElF_obj hcl (by omega)] at he
        have hv := aFs_at (ad := ad) (c := h.2.2.1 a) (f := h.2.2.2 a) hsl
        have hT : aTs (k / 1000 % 100) (k % 1000 / 4) = q.2.1 (k % 1000 / 4) := by unfold aTs; rw [hq]
        rw [hT] at hw
        have hN : k % 1000 / 4 < q.2.2 := by rw [(aCls_ok _ q hq).1]; exact hsl
        have hval : aCv ad (if k % 4 = 2 then aRf ((h.2.2.1 a).2.2 (k % 1000 / 4)) else .int (h.2.2.2 a (k % 1000 / 4))) = aFv ad (h.2.2.1 a) (h.2.2.2 a) (k / 1000 % 100) (k % 1000 / 4) := by
          unfold aFv
          rw [hft]
          by_cases e1 : k % 4 = 2
          · rw [if_pos e1, if_pos e1, aCv_rf]
          · rw [if_neg e1, if_neg e1]
            rfl
        have kk2 := kk H locs hR
        rw [List.map_cons, hval] at kk2
        unfold aWf1 at hw
        split at hw
        · rename_i heq
          simp only [Bool.and_eq_true, decide_eq_true_eq] at hw
          obtain ⟨⟨⟨⟨rfl, rfl⟩, rfl⟩, rfl⟩, rfl⟩ := hw
          exact va_get (C := q.1) (T := q.2.1) (N := q.2.2) hx hb hts (aCls_in _ q hq) hown hK hR.1 a he hq (k % 1000 / 4) hN (hts _ (aUs (List.mem_of_getElem? heq) rfl)) (fun x hx => hx) hv hdg kk2
        · rename_i heq
          simp only [Bool.and_eq_true, decide_eq_true_eq] at hw
          obtain ⟨⟨⟨⟨rfl, rfl⟩, rfl⟩, rfl⟩, rfl⟩ := hw
          exact va_getN (C := q.1) (T := q.2.1) (N := q.2.2) hx hb hts (aCls_in _ q hq) hown hK hR.1 a he hq (k % 1000 / 4) hN (hts _ (aUs (List.mem_of_getElem? heq) rfl)) (fun x hx => hx) hv hdg kk2
        · cases hw
      · cases hok
    · cases haQ
  · cases haQ
/-- a field is written, whatever it holds -/
theorem sQ_put (hx : p.tables.exec = Jvm.exec) (hb : c.code = cc) (hown : s.vm.findClass own = some m.cls) (hts : ∀ w ∈ aLT, w.before args s = true) (hini : ini = true → meth.name = "<init>") (hK : va_K D vwCl (aTyL cA) s) {k a : Nat} {v : Value} {t : List Value}
    (hok : aOk own ini spc b pc real len (.putfield k) = true) (hdg : decode cc pc = .ok (real, len)) (hR : aRel D cA base H0 H locs ad h) (ha : a < h.1) (hcl : (h.2.2.1 a).1 = k / 1000 % 100)
    (hn : ∀ ty, aTyOk (k % 4) ty = true → narrow ty v = v ∧ fits ty v = true)
    (hset : k / 1000 % 100 < 100 → aFt (k / 1000 % 100) (k % 1000 / 4) = k % 4 → (aW cA ad h).set a (ad a, .inr (k / 1000 % 100, (aFs ad (h.2.2.1 a) (h.2.2.2 a) (k / 1000 % 100)).set (k % 1000 / 4) v)) = aW cA ad h') (hwf : aWfh h')
    (kk : ∀ H' locs', aRel D cA base H0 H' locs' ad h' → W p l e R s m args below meth c H' locs' cells slots Q (F0 m (pc + len) LS t)) : W p l e R s m args below meth c H locs cells slots Q (F0 m pc LS (v :: .ref (ad a) :: t)) := by
  simp only [aOk] at hok
  split at hok
  · rename_i idx
    simp only [Bool.and_eq_true, decide_eq_true_eq] at hok
    obtain ⟨⟨⟨⟨⟨rfl, hw⟩, hsl⟩, h13⟩, hft⟩, hfin⟩ := hok
    obtain ⟨q, hq⟩ := aCls_all h13
    have he := aW_at (cA := cA) (ad := ad) ha
    rw [show aEl cA ad h a = _ from aElF_obj hcl (by omega)] at he
    have hT : aTs (k / 1000 % 100) (k % 1000 / 4) = q.2.1 (k % 1000 / 4) := by unfold aTs; rw [hq]
    rw [hT] at hw hfin
    obtain ⟨hN0, hnm, hty⟩ := aCls_ok _ q hq
    have hN : k % 1000 / 4 < q.2.2 := by rw [hN0]; exact hsl
    have hl : k % 1000 / 4 < (aFs ad (h.2.2.1 a) (h.2.2.2 a) (k / 1000 % 100)).length := by rw [aFs_len]; exact hsl
    have h2 := (hty _ hN).2
    rw [hft] at h2
    obtain ⟨hn1, hn2⟩ := hn _ h2
    have hset := hset (by omega) hft
    have kk2 : ∀ (H1 : Heap) (locs1 : List Loc), va_P D vwCl ((aW cA ad h).set a (ad a, .inr (k / 1000 % 100, (aFs ad (h.2.2.1 a) (h.2.2.2 a) (k / 1000 % 100)).set (k % 1000 / 4) v))) H1 → va_D (fun q => base ≤ q) ((aW cA ad h).set a (ad a, .inr (k / 1000 % 100, (aFs ad (h.2.2.1 a) (h.2.2.2 a) (k / 1000 % 100)).set (k % 1000 / 4) v))) → va_S (fun q => base ≤ q) H0 H1 locs1 → W p l e R s m args below meth c H1 locs1 cells slots Q (F0 m (pc + 3) LS t) := by
      rw [hset]
      exact fun H1 locs1 h1 h2 h3 => kk H1 locs1 ⟨h1, h2, h3, hwf⟩
    by_cases hf : (q.2.1 (k % 1000 / 4)).2.2.2 = true
    · rw [hf] at hfin
      simp only [Bool.not_true, Bool.false_or, Bool.and_eq_true, decide_eq_true_eq] at hfin
      obtain ⟨⟨hi, ho⟩, hfl⟩ := hfin
      unfold aWf1 at hw
      split at hw
      · rename_i heq
        simp only [Bool.and_eq_true, decide_eq_true_eq] at hw
        obtain ⟨⟨⟨⟨rfl, rfl⟩, rfl⟩, rfl⟩, rfl⟩ := hw
        exact va_putF (C := q.1) (T := q.2.1) (N := q.2.2) hx hb hts (aCls_in _ q hq) _ (fun k hk => (hty k hk).1) hnm hown hK hR.1 hR.2.1 hR.2.2.1 a he hq (k % 1000 / 4) hN (hts _ (aUs (List.mem_of_getElem? heq) rfl)) (fun x hx => hx) hf (hini hi) ho (hty _ hN).1 hn1 hn2 hl hdg kk2
      · rename_i heq
        rw [heq] at hfl
        cases hfl
      · cases hw
    · have hf : (q.2.1 (k % 1000 / 4)).2.2.2 = false := by simpa using hf
      unfold aWf1 at hw
      split at hw
      · rename_i heq
        simp only [Bool.and_eq_true, decide_eq_true_eq] at hw
        obtain ⟨⟨⟨⟨rfl, rfl⟩, rfl⟩, rfl⟩, rfl⟩ := hw
        exact va_put (C := q.1) (T := q.2.1) (N := q.2.2) hx hb hts (aCls_in _ q hq) _ (fun k hk => (hty k hk).1) hnm hown hK hR.1 hR.2.1 hR.2.2.1 a he hq (k % 1000 / 4) hN (hts _ (aUs (List.mem_of_getElem? heq) rfl)) (fun x hx => hx) hf (hty _ hN).1 hn1 hn2 hl hdg kk2
      · rename_i heq
        simp only [Bool.and_eq_true, decide_eq_true_eq] at hw
        obtain ⟨⟨⟨⟨rfl, rfl⟩, rfl⟩, rfl⟩, rfl⟩ := hw
        exact va_putN (C := q.1) (T := q.2.1) (N := q.2.2) hx hb hts (aCls_in _ q hq) _ (fun k hk => (hty k hk).1) hnm hown hK hR.1 hR.2.1 hR.2.2.1 a he hq (k % 1000 / 4) hN (hts _ (aUs (List.mem_of_getElem? heq) rfl)) (fun x hx => hx) hf (hty _ hN).1 hn1 hn2 hl hdg kk2
      · cases hw
  · cases hok
theorem aTy_num {x : Int32} {j : Nat} (h : j = 0 ∨ j = 1 ∧ (x = 0 ∨ x = 1)) : ∀ ty, aTyOk j ty = true → narrow ty (.int x) = .int x ∧ fits ty (.int x) = true := by
  intro ty hty
  rcases h with rfl | ⟨rfl, rfl | rfl⟩
  · cases ty <;> first | exact ⟨rfl, rfl⟩ | cases hty
  · cases ty <;> first | exact ⟨rfl, rfl⟩ | cases hty
  · cases ty <;> first | exact ⟨rfl, rfl⟩ | cases hty
theorem aTy_ref {r j : Nat} (h : j = 2) : ∀ ty, aTyOk j ty = true → narrow ty (.ref r) = .ref r ∧ fits ty (.ref r) = true := by
  intro ty hty
  subst h
  cases ty <;> first | exact ⟨rfl, rfl⟩ | cases hty
theorem aWfh_M {M : Nat → Nat → Int32} (hw : aWfh h) : aWfh (h.1, h.2.1, h.2.2.1, M) := hw
theorem aWfh_R {a j r : Nat} (hw : aWfh h) (hr : r < h.1) : aWfh (h.1, h.2.1, aSetR h.2.2.1 a j (some r), h.2.2.2) := by
  intro k hk i q hq
  dsimp only at hq hk ⊢
  unfold aSetR at hq
  split at hq
  · dsimp only at hq
    unfold va_up at hq
    split at hq
    · cases hq
      exact hr
    · exact hw k hk i q hq
  · exact hw k hk i q hq
theorem sQ_putfield (hx : p.tables.exec = Jvm.exec) (hb : c.code = cc) (hown : s.vm.findClass own = some m.cls) (hts : ∀ w ∈ aLT, w.before args s = true) (hini : ini = true → meth.name = "<init>") (hK : va_K D vwCl (aTyL cA) s) {k : Nat}
    (haQ : aQ X (.putfield k) st h = some (st', h')) (hok : aOk own ini spc b pc real len (.putfield k) = true) (hdg : decode cc pc = .ok (real, len)) (hR : aRel D cA base H0 H locs ad h)
    (kk : ∀ H' locs', aRel D cA base H0 H' locs' ad h' → W p l e R s m args below meth c H' locs' cells slots Q (F0 m (pc + len) LS (st'.map (aCv ad)))) : W p l e R s m args below meth c H locs cells slots Q (F0 m pc LS (st.map (aCv ad))) := by
  simp only [aQ] at haQ
  split at haQ
  · rename_i x a t
    split at haQ
    · rename_i hc
      obtain ⟨ha, hcl, hk⟩ := hc
      cases haQ
      exact sQ_put hx hb hown hts hini hK hok hdg hR ha hcl (aTy_num hk) (fun h1 h2 => aW_num ha hcl h1 (by omega)) (aWfh_M hR.2.2.2) kk
    · cases haQ
  · rename_i r a t
    split at haQ
    · rename_i hc
      obtain ⟨ha, hcl, hk, hr⟩ := hc
      cases haQ
      exact sQ_put hx hb hown hts hini hK hok hdg hR ha hcl (aTy_ref hk) (fun h1 h2 => aW_refO ha hcl h1 (by omega)) (aWfh_R hR.2.2.2 hr) kk
    · cases haQ
  · cases haQ
end SIMQ
/-! the instructions that read and write arrays -/
section SIMR
variable {p : Program} {l : Launch} {e : Env} {R : Room} {s : State} {m : MethodId} {args : Array Value} {below : List Frame} {meth : Method} {c : Code} {H : Heap} {locs : List Loc} {cells slots : Nat} {Q : State → Prop}
variable {cc : ByteArray} {pc len b base : Nat} {LS : Array Slot} {ad : Nat → Nat} {own : String} {ini : Bool} {spc : List Nat} {real : aI} {D : va_G} {cA : Nat → ClassId} {H0 : Heap} {X : aX} {h h' : aH} {st st' : List Value}

theorem sQ_iaload (hx : p.tables.exec = Jvm.exec) (hb : c.code = cc) (hK : va_K D vwCl (aTyL cA) s) (hXs : aScr X base ad s H0)
    (haQ : aQ X .iaload st h = some (st', h')) (hok : aOk own ini spc b pc real len .iaload = true) (hdg : decode cc pc = .ok (real, len)) (hR : aRel D cA base H0 H locs ad h)
    (kk : ∀ H' locs', aRel D cA base H0 H' locs' ad h' → W p l e R s m args below meth c H' locs' cells slots Q (F0 m (pc + len) LS (st'.map (aCv ad)))) : W p l e R s m args below meth c H locs cells slots Q (F0 m pc LS (st.map (aCv ad))) := by
  simp only [aOk, Bool.and_eq_true, decide_eq_true_eq] at hok
  obtain ⟨rfl, rfl⟩ := hok
  simp only [aQ] at haQ
  split at haQ
  · rename_i j a t
    split at haQ
    · rename_i h9
      subst h9
      split at haQ
      · rename_i hin
        cases haQ
        exact va_sld hx hb hXs.1 hXs.2.1 hXs.2.2.1 hR.2.2.1 (aIn_in hin) hdg (kk _ _ hR)
      · cases haQ
    · split at haQ
      · rename_i hc
        obtain ⟨ha, hcl, hin⟩ := hc
        cases haQ
        have he := aW_at (cA := cA) (ad := ad) ha
        rw [show aEl cA ad h a = _ from aElF_num (t := 0) hcl (by omega)] at he
        exact va_iald hx hb hK hR.1 a 0 he (aTyL_at (t := 0) (by omega)) (aIn_in hin) hdg (kk _ _ hR)
      · cases haQ
  · cases haQ

theorem sQ_baload (hx : p.tables.exec = Jvm.exec) (hb : c.code = cc) (hK : va_K D vwCl (aTyL cA) s) (hXs : aScr X base ad s H0)
    (haQ : aQ X .baload st h = some (st', h')) (hok : aOk own ini spc b pc real len .baload = true) (hdg : decode cc pc = .ok (real, len)) (hR : aRel D cA base H0 H locs ad h)
    (kk : ∀ H' locs', aRel D cA base H0 H' locs' ad h' → W p l e R s m args below meth c H' locs' cells slots Q (F0 m (pc + len) LS (st'.map (aCv ad)))) : W p l e R s m args below meth c H locs cells slots Q (F0 m pc LS (st.map (aCv ad))) := by
  simp only [aOk, Bool.and_eq_true, decide_eq_true_eq] at hok
  obtain ⟨rfl, rfl⟩ := hok
  simp only [aQ] at haQ
  split at haQ
  · rename_i j a t
    split at haQ
    · rename_i hc
      obtain ⟨ha, hcl, hin⟩ := hc
      cases haQ
      have he := aW_at (cA := cA) (ad := ad) ha
      rw [show aEl cA ad h a = _ from aElF_num (t := 1) hcl (by omega)] at he
      exact va_zald hx hb hK hR.1 a 1 he (aTyL_at (t := 1) (by omega)) (aIn_in hin) hdg (kk _ _ hR)
    · cases haQ
  · cases haQ

theorem sQ_iastore (hx : p.tables.exec = Jvm.exec) (hb : c.code = cc) (hK : va_K D vwCl (aTyL cA) s) (hXs : aScr X base ad s H0)
    (haQ : aQ X .iastore st h = some (st', h')) (hok : aOk own ini spc b pc real len .iastore = true) (hdg : decode cc pc = .ok (real, len)) (hR : aRel D cA base H0 H locs ad h)
    (kk : ∀ H' locs', aRel D cA base H0 H' locs' ad h' → W p l e R s m args below meth c H' locs' cells slots Q (F0 m (pc + len) LS (st'.map (aCv ad)))) : W p l e R s m args below meth c H locs cells slots Q (F0 m pc LS (st.map (aCv ad))) := by
  simp only [aOk, Bool.and_eq_true, decide_eq_true_eq] at hok
  obtain ⟨rfl, rfl⟩ := hok
  simp only [aQ] at haQ
  split at haQ
  · rename_i x j a t
    split at haQ
    · rename_i hc
      obtain ⟨ha, hcl, hin⟩ := hc
      cases haQ
      have he := aW_at (cA := cA) (ad := ad) ha
      rw [show aEl cA ad h a = _ from aElF_num (t := 0) hcl (by omega)] at he
      have hset : (aW cA ad h).set a (ad a, .inl (cA 0, (h.2.2.1 a).2.1, .inl (upd (h.2.2.2 a) j.toNatClampNeg x))) = _ := aW_row (M := aPut h.2.2.2 a j.toNatClampNeg x) ha hcl (by omega) aPut_self (fun b hb => aPut_ne hb)
      refine va_iast hx hb hK hR.1 hR.2.1 hR.2.2.1 a 0 he (aTyL_at (t := 0) (by omega)) (aIn_in hin) hdg ?_
      rw [hset]
      exact fun H1 locs1 h1 h2 h3 => kk H1 locs1 ⟨h1, h2, h3, aWfh_M hR.2.2.2⟩
    · cases haQ
  · cases haQ

theorem sQ_bastore (hx : p.tables.exec = Jvm.exec) (hb : c.code = cc) (hK : va_K D vwCl (aTyL cA) s) (hXs : aScr X base ad s H0)
    (haQ : aQ X .bastore st h = some (st', h')) (hok : aOk own ini spc b pc real len .bastore = true) (hdg : decode cc pc = .ok (real, len)) (hR : aRel D cA base H0 H locs ad h)
    (kk : ∀ H' locs', aRel D cA base H0 H' locs' ad h' → W p l e R s m args below meth c H' locs' cells slots Q (F0 m (pc + len) LS (st'.map (aCv ad)))) : W p l e R s m args below meth c H locs cells slots Q (F0 m pc LS (st.map (aCv ad))) := by
  simp only [aOk, Bool.and_eq_true, decide_eq_true_eq] at hok
  obtain ⟨rfl, rfl⟩ := hok
  simp only [aQ] at haQ
  split at haQ
  · rename_i x j a t
    split at haQ
    · rename_i hc
      obtain ⟨ha, hcl, hin, hx01⟩ := hc
      cases haQ
      have he := aW_at (cA := cA) (ad := ad) ha
      rw [show aEl cA ad h a = _ from aElF_num (t := 1) hcl (by omega)] at he
      have hset : (aW cA ad h).set a (ad a, .inl (cA 1, (h.2.2.1 a).2.1, .inl (upd (h.2.2.2 a) j.toNatClampNeg x))) = _ := aW_row (M := aPut h.2.2.2 a j.toNatClampNeg x) ha hcl (by omega) aPut_self (fun b hb => aPut_ne hb)
      refine va_zast hx hb hK hR.1 hR.2.1 hR.2.2.1 a 1 he (aTyL_at (t := 1) (by omega)) (aIn_in hin) hdg ?_
      rw [show vp_nar .boolean x = x by rcases hx01 with rfl | rfl <;> rfl, hset]
      exact fun H1 locs1 h1 h2 h3 => kk H1 locs1 ⟨h1, h2, h3, aWfh_M hR.2.2.2⟩
    · cases haQ
  · cases haQ

theorem sQ_aaload (hx : p.tables.exec = Jvm.exec) (hb : c.code = cc) (hK : va_K D vwCl (aTyL cA) s) (hXs : aScr X base ad s H0)
    (haQ : aQ X .aaload st h = some (st', h')) (hok : aOk own ini spc b pc real len .aaload = true) (hdg : decode cc pc = .ok (real, len)) (hR : aRel D cA base H0 H locs ad h)
    (kk : ∀ H' locs', aRel D cA base H0 H' locs' ad h' → W p l e R s m args below meth c H' locs' cells slots Q (F0 m (pc + len) LS (st'.map (aCv ad)))) : W p l e R s m args below meth c H locs cells slots Q (F0 m pc LS (st.map (aCv ad))) := by
  simp only [aOk, Bool.and_eq_true, decide_eq_true_eq] at hok
  obtain ⟨rfl, rfl⟩ := hok
  simp only [aQ] at haQ
  split at haQ
  · rename_i j a t
    split at haQ
    · rename_i hc
      obtain ⟨ha, ⟨hc1, hc2⟩, hin⟩ := hc
      cases haQ
      have hcl : (h.2.2.1 a).1 = 100 + ((h.2.2.1 a).1 - 100) := by omega
      have he := aW_at (cA := cA) (ad := ad) ha
      rw [show aEl cA ad h a = _ from aElF_ref hcl (by omega)] at he
      have kk2 := kk _ _ hR
      rw [List.map_cons, aCv_rf] at kk2
      have hr : (aAT.getD ((h.2.2.1 a).1 - 100) .int).isReference = true := by
        rcases (show (h.2.2.1 a).1 - 100 = 2 ∨ (h.2.2.1 a).1 - 100 = 3 ∨ (h.2.2.1 a).1 - 100 = 4 ∨ (h.2.2.1 a).1 - 100 = 5 by omega) with q | q | q | q <;> rw [q] <;> rfl
      exact aWaald hx hb hK hR.1 a ((h.2.2.1 a).1 - 100) hr he (aTyL_at (by omega)) (aIn_in hin) hdg kk2
    · cases haQ
  · cases haQ

theorem sQ_aastore (hx : p.tables.exec = Jvm.exec) (hb : c.code = cc) (hK : va_K D vwCl (aTyL cA) s) (hXs : aScr X base ad s H0)
    (haQ : aQ X .aastore st h = some (st', h')) (hok : aOk own ini spc b pc real len .aastore = true) (hdg : decode cc pc = .ok (real, len)) (hR : aRel D cA base H0 H locs ad h)
    (kk : ∀ H' locs', aRel D cA base H0 H' locs' ad h' → W p l e R s m args below meth c H' locs' cells slots Q (F0 m (pc + len) LS (st'.map (aCv ad)))) : W p l e R s m args below meth c H locs cells slots Q (F0 m pc LS (st.map (aCv ad))) := by
  simp only [aOk, Bool.and_eq_true, decide_eq_true_eq] at hok
  obtain ⟨rfl, rfl⟩ := hok
  simp only [aQ] at haQ
  split at haQ
  · rename_i r j a t
    split at haQ
    · rename_i hc
      obtain ⟨ha, hr, hr1, ⟨h13, hty⟩, hc1, hin⟩ := hc
      cases haQ
      have hcl : (h.2.2.1 a).1 = 100 + ((h.2.2.1 a).1 - 100) := by omega
      have he := aW_at (cA := cA) (ad := ad) ha
      rw [show aEl cA ad h a = _ from aElF_ref hcl (by omega)] at he
      have hv := aW_at (cA := cA) (ad := ad) hr
      rw [show aEl cA ad h r = _ from aElF_obj rfl hr1] at hv
      have hlt : (h.2.2.1 a).1 - 100 < 6 ∧ ∃ q, vwCl[(h.2.2.1 r).1]? = some q ∧ aAT.getD ((h.2.2.1 a).1 - 100) .int = .object q.1 := by
        obtain ⟨q, hq⟩ := aCls_all h13
        rw [hq] at hty
        have h1 : aAT[(h.2.2.1 a).1 - 100]? = some (.object q.1) := hty
        have h2 : (h.2.2.1 a).1 - 100 < aAT.length := (List.getElem?_eq_some_iff.mp h1).1
        refine ⟨h2, q, hq, ?_⟩
        rw [List.getD_eq_getElem?_getD, h1]
        rfl
      obtain ⟨ht6, q, hq, hqt⟩ := hlt
      have ht := aTyL_at (cA := cA) ht6
      rw [hqt] at ht
      refine va_astq (r := q) hx hb hK hR.1 hR.2.1 hR.2.2.1 a ((h.2.2.1 a).1 - 100) r (h.2.2.1 r).1 he ht hv hq (aIn_in hin) hdg ?_
      rw [aW_refA ha hcl (by omega)]
      exact fun H1 locs1 h1 h2 h3 => kk H1 locs1 ⟨h1, h2, h3, aWfh_R hR.2.2.2 hr⟩
    · cases haQ
  · cases haQ

theorem sQ_arraylength (hx : p.tables.exec = Jvm.exec) (hb : c.code = cc) (hK : va_K D vwCl (aTyL cA) s) (hXs : aScr X base ad s H0)
    (haQ : aQ X .arraylength st h = some (st', h')) (hok : aOk own ini spc b pc real len .arraylength = true) (hdg : decode cc pc = .ok (real, len)) (hR : aRel D cA base H0 H locs ad h)
    (kk : ∀ H' locs', aRel D cA base H0 H' locs' ad h' → W p l e R s m args below meth c H' locs' cells slots Q (F0 m (pc + len) LS (st'.map (aCv ad)))) : W p l e R s m args below meth c H locs cells slots Q (F0 m pc LS (st.map (aCv ad))) := by
  simp only [aOk, Bool.and_eq_true, decide_eq_true_eq] at hok
  obtain ⟨rfl, rfl⟩ := hok
  simp only [aQ] at haQ
  split at haQ
  · rename_i a t
    split at haQ
    · rename_i h9
      subst h9
      cases haQ
      exact va_slen hx hb hXs.1 hXs.2.1 hXs.2.2.1 hR.2.2.1 hdg (kk _ _ hR)
    · split at haQ
      · rename_i hc
        obtain ⟨ha, hc1, hc2⟩ := hc
        cases haQ
        have hcl : (h.2.2.1 a).1 = 100 + ((h.2.2.1 a).1 - 100) := by omega
        have he := aW_at (cA := cA) (ad := ad) ha
        by_cases h2 : (h.2.2.1 a).1 - 100 < 2
        · rw [show aEl cA ad h a = _ from aElF_num hcl h2] at he
          exact va_alen hx hb hK hR.1 a ((h.2.2.1 a).1 - 100) he (aTyL_at (by omega)) rfl hdg (kk _ _ hR)
        · rw [show aEl cA ad h a = _ from aElF_ref hcl (by omega)] at he
          exact va_alen hx hb hK hR.1 a ((h.2.2.1 a).1 - 100) he (aTyL_at (by omega)) rfl hdg (kk _ _ hR)
      · cases haQ
  · cases haQ

end SIMR
/-! calls -/
theorem aGoodIn {L : List Cond} (h : ∀ w ∈ L, w ∈ aGL) : GoodIn aLT L := fun w hw => ⟨aGL_LT (h w hw), good_of_word (List.mem_filter.mp (h w hw)).2⟩
def aWs1 (y : Nat) : List Cond := .code (aIn y).1 (aIn y).2.1 (aML y) (aIn y).2.2.2.1 :: aGL
def aRm (d mc ms : Nat) : Room := { frames := d + 8, cells := mc, slots := ms, locals := 1000 * (d + 1) }
/-- the words that are carried from state to state: those of nest mates, of arrays of objects -/
def aNw (U : State) : Prop := (∀ w ∈ lw_tbl, aNst w = true → va_Nw w U) ∧ (∀ C, Cond.arrayOver (.object C) ∈ lw_tbl → va_AO C U)
theorem aNw.warm {s U : State} (hW : s.WarmedH U.vm) (h : aNw s) : aNw U := by
  refine ⟨fun w hw hn => ?_, fun C hC => (h.2 C hC).moved hW.alike⟩
  have h1 := h.1 w hw hn
  cases w <;> first | exact va_Nw.warmF hW h1 | exact va_Nw.warmM hW h1 | cases hn
theorem aNw.same {u U : State} (hv : u.vm = U.vm) (h : aNw u) : aNw U := by
  refine ⟨fun w hw hn => ?_, fun C hC => (h.2 C hC).moved (by rw [hv]; exact Vm.Alike.refl _)⟩
  have h1 := h.1 w hw hn
  cases w <;> first | exact va_Nw.same rfl hv h1 | cases hn
def aPre (D : va_G) (cA : Nat → ClassId) (base : Nat) (X : aX) (ad : Nat → Nat) (h : aH) : State → Prop := fun U => base ≤ U.heap.size ∧ va_K D vwCl (aTyL cA) U ∧ va_P D vwCl (aW cA ad h) U.heap ∧ va_D (fun q => base ≤ q) (aW cA ad h) ∧ aScr X base ad U U.heap ∧ aNw U
def aAgr (n n' : Nat) (ad ad' : Nat → Nat) : Prop := ∀ k, ¬ (n ≤ k ∧ k < n' ∧ k < 90000) → ad' k = ad k
def aPost (D : va_G) (cA : Nat → ClassId) (base : Nat) (ad : Nat → Nat) (h : aH) (rv : Option Value) (h' : aH) : Array Value → State → Outcome → State → Prop := fun _ st o t =>
  ∃ ad', aAgr h.1 h'.1 ad ad' ∧ o = .returned (rv.map (aCv ad')) ∧ va_P D vwCl (aW cA ad' h') t.heap ∧ va_D (fun q => base ≤ q) (aW cA ad' h') ∧ va_F (fun q => base ≤ q) st t
def aMet (l : Launch) (D : va_G) (cA : Nat → ClassId) (base : Nat) (X : aX) (d y : Nat) (as : List Value) (h : aH) (rv : Option Value) (h' : aH) : Prop :=
  ∀ ad, Met l (aIn y).1 (aWs1 y) (aRm d (h'.1 - h.1) (h'.2.1 - h.2.1)) (va_Pc (as.map (aCv ad)) (aPre D cA base X ad h)) (aPost D cA base ad h rv h') (h'.1 - h.1) (h'.2.1 - h.2.1) (fun q => base ≤ q)
theorem aScr.moved {X : aX} {base : Nat} {ad : Nat → Nat} {s U : State} {H0 H : Heap} {locs : List Loc} (hS : va_S (fun q => base ≤ q) H0 H locs) (hW : s.WarmedH U.vm) (h : aScr X base ad s H0) : aScr X base ad U H :=
  ⟨(h.1.kept (hS.2.1 _ h.2.1 h.2.2.1)).moved hW.alike, Nat.lt_of_lt_of_le h.2.1 hS.1, h.2.2.1, h.2.2.2.warm hW hS.2.1⟩
theorem aScr.same {X : aX} {base : Nat} {ad : Nat → Nat} {s U : State} {H : Heap} (hv : U.vm = s.vm) (h : aScr X base ad s H) : aScr X base ad U H := ⟨h.1.moved (by rw [hv]; exact Vm.Alike.refl _), h.2.1, h.2.2.1, h.2.2.2.same hv⟩
theorem aPre_blind {D : va_G} {cA : Nat → ClassId} {base : Nat} {X : aX} {ad : Nat → Nat} {h : aH} {as : List Value} : FrameBlind (va_Pc as (aPre D cA base X ad h)) := fun a U g mk q => by
  obtain ⟨q0, q1, q2, q3, q4, q5, q6⟩ := q
  exact ⟨q0, q1, va_K.moved (u := U) (U := U.calling g mk a) (Vm.Alike.refl U.vm) q2, q3, q4, aScr.same (s := U) (U := U.calling g mk a) rfl q5, aNw.same (u := U) (U := U.calling g mk a) rfl q6⟩
theorem aAgr.rf {n : Nat} {ad : Nat → Nat} : aAgr n n ad ad := fun _ _ => rfl
theorem aAgr.eq {n : Nat} {ad ad' : Nat → Nat} (h : aAgr n n ad ad') : ad' = ad := funext fun k => h k (by omega)
theorem aAgr.trans {n n1 n2 : Nat} {ad ad1 ad2 : Nat → Nat} (h1 : aAgr n n1 ad ad1) (h2 : aAgr n1 n2 ad1 ad2) (l1 : n ≤ n1) (l2 : n1 ≤ n2) : aAgr n n2 ad ad2 := fun k hk => (h2 k (by omega)).trans (h1 k (by omega))
theorem aOkv_cv {n n' : Nat} {ad ad' : Nat → Nat} {v : Value} (h : aAgr n n' ad ad') (hv : aOkv n v = true) : aCv ad' v = aCv ad v := by
  cases v <;> try rfl
  rename_i r
  have hr : r < n ∨ 90000 ≤ r := of_decide_eq_true hv
  show Value.ref (ad' r) = Value.ref (ad r)
  rw [h r (fun q => hr.elim (fun z => Nat.not_lt.mpr q.1 z) (fun z => Nat.not_lt.mpr z q.2.2))]
theorem aOkv_all {n n' : Nat} {ad ad' : Nat → Nat} {vs : List Value} (h : aAgr n n' ad ad') (hv : n' = n ∨ vs.all (aOkv n) = true) : ∀ v ∈ vs, aCv ad' v = aCv ad v := by
  intro v hm
  rcases hv with e | hv
  · subst e
    rw [h.eq]
  · exact aOkv_cv h (List.all_eq_true.mp hv v hm)
/-- what the words say of a method -/
theorem aCkW_spec {y : Nat} (hp : aCkWP y) : Cond.code (aIn y).1 (aIn y).2.1 (aML y) (aIn y).2.2.2.1 ∈ aGL ∧ (aCI y = 100 → Cond.static (aIn y).1 ∈ aGL) ∧ (aCI y ≠ 100 → Cond.instanceMethod (aIn y).1 ∈ aGL ∧ aCI y < 13 ∧ aCn (aCI y) = (aIn y).1.cls ∧ ((aIn y).1.name = "<init>" ∨ Cond.selects (aIn y).1.cls (aIn y).1 (aIn y).1 ∈ aGL)) ∧ Cond.initialized (aIn y).1.cls ∈ aGL ∧ plainName (aIn y).1.cls = true ∧ ((aIn y).1.cls ≠ "java/lang/invoke/MethodHandle" ∧ (aIn y).1.cls ≠ "java/lang/invoke/VarHandle") ∧ (parseMethodDescriptor (aIn y).1.desc).map (fun d => d.parameters.length) = some (aNA y) ∧ aRtOk (aRT y) (aIn y).2.2.2.1 = true ∧ aML y ≤ 200 := by
  obtain ⟨h, h1⟩ := hp
  unfold aCkW at h
  split at h
  · simp only [Bool.and_eq_true, decide_eq_true_eq] at h
    obtain ⟨⟨⟨⟨⟨⟨h2, h3⟩, h4⟩, h5⟩, h6⟩, h7⟩, h8⟩ := h
    refine ⟨aGs h1 rfl, fun q => ?_, fun q => ?_, aGs (List.mem_of_getElem? h3) rfl, h4, h5, h6, h7, h8⟩
    · rw [if_pos q] at h2
      exact aGs (List.mem_of_getElem? (of_decide_eq_true h2)) rfl
    · rw [if_neg q] at h2
      simp only [Bool.and_eq_true, Bool.or_eq_true, decide_eq_true_eq] at h2
      obtain ⟨⟨⟨g1, g2⟩, g3⟩, g4⟩ := h2
      exact ⟨aGs (List.mem_of_getElem? g1) rfl, g2, g3, g4.imp id (fun z => aGs (List.mem_of_getElem? z) rfl)⟩
  · cases h
section SIMV
variable {p : Program} {l : Launch} {e : Env} {R : Room} {s : State} {m : MethodId} {args : Array Value} {below : List Frame} {meth : Method} {c : Code} {H : Heap} {locs : List Loc} {cells slots : Nat} {Q : State → Prop}
variable {cc : ByteArray} {pc len b base d nL : Nat} {LS : Array Slot} {ad : Nat → Nat} {own : String} {ini : Bool} {spc : List Nat} {real : aI} {D : va_G} {cA : Nat → ClassId} {H0 : Heap} {X : aX} {h h' : aH} {ls st st' : List Value}
theorem aRun_k {rest' st0 : List Value} {rv : Option Value} {a : Array Value} {mc ms : Nat} (hr : va_Run p l e R s m args below meth c H locs cells slots mc ms (F0 m pc LS st0) rest' (aPost D cA base ad h rv h' a) (fun q => base ≤ q)) (hR : aRel D cA base H0 H locs ad h) (hwf : aWfh h')
    (kk : ∀ ad' H' locs', aAgr h.1 h'.1 ad ad' → aRel D cA base H0 H' locs' ad' h' → W p l e R s m args below meth c H' locs' (cells + mc) (slots + ms) Q (F0 m (pc + 3) LS ((rv.map (aCv ad')).toList ++ rest'))) : W p l e R s m args below meth c H locs cells slots Q (F0 m pc LS st0) := by
  intro T hT Xs
  obtain ⟨v, st₀, t, T', L, h0, X', hL, e1, e2, ⟨ad', hag, hv, hP', hD', hF⟩, st⟩ := hr T hT Xs
  cases hv
  obtain ⟨hz, hk⟩ := hF
  rw [h0] at hz hk
  obtain ⟨-, -, hS, -⟩ := hR
  obtain ⟨t2, a1, b1⟩ := kk ad' T'.heap (locs ++ L) hag ⟨by rw [e1]; exact hP', hD', ⟨Nat.le_trans hS.1 (by rw [e1]; exact hz), fun q h1 h2 => by
      rw [e1, hk q (Nat.lt_of_lt_of_le h1 hS.1) h2]
      exact hS.2.1 q h1 h2, fun q hq => by
      rcases List.mem_append.mp hq with h9 | h9
      · exact hS.2.2 q h9
      · exact hL q h9⟩, hwf⟩ T' rfl X'
  exact ⟨t2, st t2 a1, b1⟩
/-- what a callee's words, room and start come to -/
theorem aGo_pre (hN : aNw s) (hK : va_K D vwCl (aTyL cA) s) (hXs : aScr X base ad s H0) (hR : aRel D cA base H0 H locs ad h) (hbase : base ≤ H0.size) {as : List Value} :
    FrameBlind (va_Pc (as.map (aCv ad)) (aPre D cA base X ad h)) ∧ ∀ U : State, U.heap = H → s.WarmedH U.vm → va_Pc (as.map (aCv ad)) (aPre D cA base X ad h) (as.map (aCv ad)).toArray U := by
  refine ⟨aPre_blind, fun U hU hW => ⟨rfl, ?_, va_K.moved hW.alike hK, by rw [hU]; exact hR.1, hR.2.1, by rw [hU]; exact hXs.moved hR.2.2.1 hW, hN.warm hW⟩⟩
  rw [hU]
  exact Nat.le_trans hbase hR.2.2.1.1
theorem aRecv (hK : va_K D vwCl (aTyL cA) s) (hR : aRel D cA base H0 H locs ad h) {a : Nat} (ha : a < h.1) {ci : Nat} (hc : (h.2.2.1 a).1 = ci) (hci : ci < 13) : ∃ cell : Cell, H[ad a]? = some cell ∧ cell.vm.isStatics = false ∧ s.vm.findClass (aCn ci) = some cell.cls := by
  obtain ⟨q, hq⟩ := aCls_all hci
  have he := aW_at (cA := cA) (ad := ad) ha
  rw [show aEl cA ad h a = _ from aElF_obj hc (by omega)] at he
  have := va_recv hK hR.1 hq he
  rw [show aCn ci = q.1 by unfold aCn; rw [hq]]
  exact this
/-- of each callee that the tables have -/
def aCal (l : Launch) (D : va_G) (cA : Nat → ClassId) (base : Nat) (X : aX) (d : Nat) (cal : Nat → List Value → aH → Option (Option Value × aH)) : Prop :=
  ∀ y as h rv h', y + 1 < aIs.length → aWfh h → cal y as h = some (rv, h') → aMet l D cA base X d y as h rv h' ∧ h.1 ≤ h'.1 ∧ h.2.1 ≤ h'.2.1 ∧ aWfh h'
theorem aWm1_spec {idx : Nat} {y : MethodName} {w : Option Cond} (h : aWm1 own idx y w = true) : w = some (.methodLink own idx y) ∨ ∃ host, w = some (.methodLinkNest own idx y host) := by
  unfold aWm1 at h
  split at h
  · simp only [Bool.and_eq_true, decide_eq_true_eq] at h
    obtain ⟨⟨rfl, rfl⟩, rfl⟩ := h
    exact Or.inl rfl
  · simp only [Bool.and_eq_true, decide_eq_true_eq] at h
    obtain ⟨⟨rfl, rfl⟩, rfl⟩ := h
    exact Or.inr ⟨_, rfl⟩
  · cases h
theorem aRoom_ok {y mc ms : Nat} (hml : aML y ≤ 200) (hfr : d + 9 ≤ R.frames) (hlo : 1000 * (d + 2) ≤ R.locals) : (aRm d mc ms).frames + 1 ≤ R.frames ∧ 8 + (aML y + 11) + (aRm d mc ms).locals ≤ R.locals := by
  unfold aRm
  dsimp only
  omega
theorem aGo_spec {cal : Nat → List Value → aH → Option (Option Value × aH)} {y : Nat} {as rest : List Value} (hg : aGo cal y as rest ls h = some (st', h')) : (rest.map fun v => v.category).sum ≤ 8 ∧ ∃ rv, cal y as h = some (rv, h') ∧ st' = rv.toList ++ rest ∧ (h'.1 = h.1 ∨ (ls ++ rest).all (aOkv h.1) = true) := by
  unfold aGo at hg
  split at hg
  · rename_i h8
    split at hg
    · rename_i rv h2 hc
      split at hg
      · rename_i ho
        cases hg
        exact ⟨h8, rv, hc, rfl, ho⟩
      · cases hg
    · cases hg
  · cases hg
theorem aCat_map (ad : Nat → Nat) (t : List Value) : ((t.map (aCv ad)).map fun v => v.category).sum = (t.map fun v => v.category).sum := by
  rw [List.map_map]
  congr 1
  apply List.map_congr_left
  intro v _
  exact aCv_cat ad v
/-- behind any call -/
theorem aCall_k {rest : List Value} {rv : Option Value} {st0 : List Value} {a : Array Value} (hr : va_Run p l e R s m args below meth c H locs cells slots (h'.1 - h.1) (h'.2.1 - h.2.1) (F0 m pc LS st0) (rest.map (aCv ad)) (aPost D cA base ad h rv h' a) (fun q => base ≤ q)) (hR : aRel D cA base H0 H locs ad h) (hwf : aWfh h') (ho : h'.1 = h.1 ∨ (ls ++ rest).all (aOkv h.1) = true) (hL : lvR LS nL ad ls)
    (kk : ∀ ad' H' locs', aAgr h.1 h'.1 ad ad' → aRel D cA base H0 H' locs' ad' h' → lvR LS nL ad' ls → W p l e R s m args below meth c H' locs' (cells + (h'.1 - h.1)) (slots + (h'.2.1 - h.2.1)) Q (F0 m (pc + 3) LS ((rv.toList ++ rest).map (aCv ad')))) : W p l e R s m args below meth c H locs cells slots Q (F0 m pc LS st0) := by
  refine aRun_k hr hR hwf (fun ad' H' locs' hag hR' => ?_)
  have hall := aOkv_all (vs := ls ++ rest) hag ho
  have k2 := kk ad' H' locs' hag hR' (hL.ad (fun v hv => hall v (List.mem_append_left _ hv)))
  have e1 : rest.map (aCv ad) = rest.map (aCv ad') := List.map_congr_left (fun v hv => (hall v (List.mem_append_right _ hv)).symm)
  have e2 : (rv.toList ++ rest).map (aCv ad') = (rv.map (aCv ad')).toList ++ rest.map (aCv ad') := by
    rw [List.map_append]
    cases rv <;> rfl
  rw [e1, ← e2]
  exact k2
end SIMV
/-! the three calls, and what is called of the library -/
section SIMW
variable {p : Program} {l : Launch} {e : Env} {R : Room} {s : State} {m : MethodId} {args : Array Value} {below : List Frame} {meth : Method} {c : Code} {H : Heap} {locs : List Loc} {cells slots : Nat} {Q : State → Prop}
variable {cc : ByteArray} {pc len b base d nL : Nat} {LS : Array Slot} {ad : Nat → Nat} {own : String} {ini : Bool} {spc : List Nat} {real : aI} {D : va_G} {cA : Nat → ClassId} {H0 : Heap} {X : aX} {h h' : aH} {ls st st' : List Value}
theorem aTake {n : Nat} {st t : List Value} {v : Value} (h : st.drop n = v :: t) : (st.take n).length = n ∧ st = st.take n ++ v :: t := by
  refine ⟨?_, by rw [← h, List.take_append_drop]⟩
  have h1 : (st.drop n).length = (v :: t).length := by rw [h]
  rw [List.length_drop, List.length_cons] at h1
  rw [List.length_take]
  omega
theorem aPar {y : Nat} (h : aCkWP y) : (aIn y).1.cls ≠ "java/lang/invoke/MethodHandle" ∧ (aIn y).1.cls ≠ "java/lang/invoke/VarHandle" ∧ (parseMethodDescriptor (aIn y).1.desc).map (fun d => d.parameters.length) = some (aNA y) := by
  obtain ⟨-, -, -, -, -, h5, h6, -, -⟩ := aCkW_spec h
  exact ⟨h5.1, h5.2, h6⟩
theorem aGoodY {y : Nat} (h : aCkWP y) : GoodIn aLT (aWs1 y) := by
  refine aGoodIn fun w hw => ?_
  unfold aWs1 at hw
  rcases List.mem_cons.mp hw with rfl | hw
  · exact (aCkW_spec h).1
  · exact hw
theorem aWm2 {idx : Nat} {y : MethodName} {host : String} (hN : aNw s) (hm : Cond.methodLinkNest own idx y host ∈ lw_tbl) : va_Nw (.methodLinkNest own idx y host) s := hN.1 _ hm rfl
theorem sV_static {cal : Nat → List Value → aH → Option (Option Value × aH)} (hx : p.tables.exec = Jvm.exec) (hb : c.code = cc) (hml : c.maxLocals = nL) (hown : s.vm.findClass own = some m.cls) (hts : ∀ w ∈ aLT, w.before args s = true) (hN : aNw s) (hK : va_K D vwCl (aTyL cA) s) (hXs : aScr X base ad s H0) (hbase : base ≤ H0.size)
    (hcal : aCal l D cA base X d cal) (hck : ∀ y, y + 1 < aIs.length → aCkWP y) (hfr : d + 9 ≤ R.frames) (hlo : 1000 * (d + 2) ≤ R.locals) {k idx : Nat}
    (hV : (if (st.take (aNA (k % 1000))).length = aNA (k % 1000) ∧ aCI (k % 1000) = 100 then aGo cal (k % 1000) (st.take (aNA (k % 1000))).reverse (st.drop (aNA (k % 1000))) ls h else none) = some (st', h')) (hy : k % 1000 + 1 < aIs.length) (hw : aWm1 own idx (aIn (k % 1000)).1 lw_tbl[k / 1000]? = true)
    (hdg : decode cc pc = .ok (.invokestatic idx, 3)) (hR : aRel D cA base H0 H locs ad h) (hL : lvR LS nL ad ls) (hcells : cells + (h'.1 - h.1) ≤ R.cells) (hslots : slots + (h'.2.1 - h.2.1) ≤ R.slots)
    (kk : ∀ ad' H' locs', aAgr h.1 h'.1 ad ad' → aRel D cA base H0 H' locs' ad' h' → lvR LS nL ad' ls → W p l e R s m args below meth c H' locs' (cells + (h'.1 - h.1)) (slots + (h'.2.1 - h.2.1)) Q (F0 m (pc + 3) LS (st'.map (aCv ad')))) : W p l e R s m args below meth c H locs cells slots Q (F0 m pc LS (st.map (aCv ad))) := by
  split at hV
  · rename_i hc
    obtain ⟨hn, hst⟩ := hc
    obtain ⟨h8, rv, hcall, rfl, ho⟩ := aGo_spec hV
    obtain ⟨hM, hle1, hle2, hwf'⟩ := hcal _ _ _ _ _ hy hR.2.2.2 hcall
    have hcw := hck _ hy
    obtain ⟨w1, w2, -, w4, -, w5, w6, -, w8⟩ := aCkW_spec hcw
    have hstk : st.map (aCv ad) = ((st.take (aNA (k % 1000))).reverse.map (aCv ad)).reverse ++ (st.drop (aNA (k % 1000))).map (aCv ad) := by
      rw [List.map_reverse, List.reverse_reverse, ← List.map_append, List.take_append_drop]
    have hlen : ((st.take (aNA (k % 1000))).reverse.map (aCv ad)).length = aNA (k % 1000) := by rw [List.length_map, List.length_reverse, hn]
    have h8' : (((st.drop (aNA (k % 1000))).map (aCv ad)).map fun v => v.category).sum ≤ 8 := by rw [aCat_map]; exact h8
    rcases aWm1_spec hw with hwd | ⟨host, hwd⟩
    · exact aCall_k (va_runS (As := (st.take (aNA (k % 1000))).reverse.map (aCv ad)) (rest := (st.drop (aNA (k % 1000))).map (aCv ad)) (nL := nL) ⟨hx, hb, hml, hown, hts⟩ (hM ad) ⟨callB_of (aNA (k % 1000)) hts (aGoodY hcw) rfl rfl rfl (hts _ (aGL_LT w4)) (hts _ (aUs (List.mem_of_getElem? hwd) rfl)) (aPar hcw) (aRoom_ok w8 hfr hlo), hts _ (aGL_LT (w2 hst))⟩
        (aGo_pre hN hK hXs hR hbase) rfl hlen hL.1 hstk (lv_room h8') hdg ⟨hcells, hslots⟩) hR hwf' ho hL kk
    · exact aCall_k (va_runSN (As := (st.take (aNA (k % 1000))).reverse.map (aCv ad)) (rest := (st.drop (aNA (k % 1000))).map (aCv ad)) (nL := nL) ⟨hx, hb, hml, hown, hts⟩ (hM ad) ⟨va_cnB (aNA (k % 1000)) hts (aGoodY hcw) rfl rfl rfl (aWm2 hN (List.mem_of_getElem? hwd)) (hts _ (aGL_LT w4)) (aPar hcw) (aRoom_ok w8 hfr hlo), hts _ (aGL_LT (w2 hst)), trivial⟩
        (aGo_pre hN hK hXs hR hbase) rfl hlen hL.1 hstk (lv_room h8') hdg ⟨hcells, hslots⟩) hR hwf' ho hL kk
  · cases hV
theorem sV_inst {cal : Nat → List Value → aH → Option (Option Value × aH)} (hx : p.tables.exec = Jvm.exec) (hb : c.code = cc) (hml : c.maxLocals = nL) (hown : s.vm.findClass own = some m.cls) (hts : ∀ w ∈ aLT, w.before args s = true) (hN : aNw s) (hK : va_K D vwCl (aTyL cA) s) (hXs : aScr X base ad s H0) (hbase : base ≤ H0.size)
    (hcal : aCal l D cA base X d cal) (hck : ∀ y, y + 1 < aIs.length → aCkWP y) (hfr : d + 9 ≤ R.frames) (hlo : 1000 * (d + 2) ≤ R.locals) {k idx a : Nat} {t : List Value} (hd : st.drop (aNA (k % 1000)) = .ref a :: t) (ha : a < h.1) (hcl : (h.2.2.1 a).1 = aCI (k % 1000))
    (hV : aGo cal (k % 1000) (.ref a :: (st.take (aNA (k % 1000))).reverse) t ls h = some (st', h')) (hy : k % 1000 + 1 < aIs.length) (hw : aWm1 own idx (aIn (k % 1000)).1 lw_tbl[k / 1000]? = true) (hne : ¬ (aIn (k % 1000)).1.name = "<init>") (h100 : aCI (k % 1000) ≠ 100)
    (hdg : decode cc pc = .ok (.invokevirtual idx, 3)) (hR : aRel D cA base H0 H locs ad h) (hL : lvR LS nL ad ls) (hcells : cells + (h'.1 - h.1) ≤ R.cells) (hslots : slots + (h'.2.1 - h.2.1) ≤ R.slots)
    (kk : ∀ ad' H' locs', aAgr h.1 h'.1 ad ad' → aRel D cA base H0 H' locs' ad' h' → lvR LS nL ad' ls → W p l e R s m args below meth c H' locs' (cells + (h'.1 - h.1)) (slots + (h'.2.1 - h.2.1)) Q (F0 m (pc + 3) LS (st'.map (aCv ad')))) : W p l e R s m args below meth c H locs cells slots Q (F0 m pc LS (st.map (aCv ad))) := by
  obtain ⟨h8, rv, hcall, rfl, ho⟩ := aGo_spec hV
  obtain ⟨hM, hle1, hle2, hwf'⟩ := hcal _ _ _ _ _ hy hR.2.2.2 hcall
  have hcw := hck _ hy
  obtain ⟨w1, -, w3, w4, -, w5, w6, -, w8⟩ := aCkW_spec hcw
  obtain ⟨g1, g2, g3, g4⟩ := w3 h100
  have g4 := g4.resolve_left hne
  obtain ⟨hn, hst⟩ := aTake hd
  have hstk : st.map (aCv ad) = ((st.take (aNA (k % 1000))).reverse.map (aCv ad)).reverse ++ .ref (ad a) :: t.map (aCv ad) := by
    rw [List.map_reverse, List.reverse_reverse]
    conv => lhs; rw [hst, List.map_append]
    rfl
  have hlen : ((st.take (aNA (k % 1000))).reverse.map (aCv ad)).length = aNA (k % 1000) := by rw [List.length_map, List.length_reverse, hn]
  have h8' : ((t.map (aCv ad)).map fun v => v.category).sum ≤ 8 := by rw [aCat_map]; exact h8
  have hrec := aRecv hK hR ha hcl g2
  rw [g3] at hrec
  have hpre := aGo_pre (as := .ref a :: (st.take (aNA (k % 1000))).reverse) hN hK hXs hR hbase
  rcases aWm1_spec hw with hwd | ⟨host, hwd⟩
  · exact aCall_k (va_runV (As := (st.take (aNA (k % 1000))).reverse.map (aCv ad)) (b := ad a) (C := (aIn (k % 1000)).1.cls) (rest := t.map (aCv ad)) (nL := nL) ⟨hx, hb, hml, hown, hts⟩ (hM ad) ⟨callB_of (aNA (k % 1000)) hts (aGoodY hcw) rfl rfl rfl (hts _ (aGL_LT w4)) (hts _ (aUs (List.mem_of_getElem? hwd) rfl)) (aPar hcw) (aRoom_ok w8 hfr hlo), hts _ (aGL_LT g1), hts _ (aGL_LT g4)⟩
      ⟨hpre.1, hrec, hpre.2⟩ rfl hlen hL.1 hstk (lv_room h8') hdg ⟨hcells, hslots⟩) hR hwf' ho hL kk
  · exact aCall_k (va_runVN (As := (st.take (aNA (k % 1000))).reverse.map (aCv ad)) (b := ad a) (C := (aIn (k % 1000)).1.cls) (rest := t.map (aCv ad)) (nL := nL) ⟨hx, hb, hml, hown, hts⟩ (hM ad) ⟨va_cnB (aNA (k % 1000)) hts (aGoodY hcw) rfl rfl rfl (aWm2 hN (List.mem_of_getElem? hwd)) (hts _ (aGL_LT w4)) (aPar hcw) (aRoom_ok w8 hfr hlo), hts _ (aGL_LT g1), hts _ (aGL_LT g4)⟩
      ⟨hpre.1, hrec, hpre.2⟩ rfl hlen hL.1 hstk (lv_room h8') hdg ⟨hcells, hslots⟩) hR hwf' ho hL kk
theorem sV_init {cal : Nat → List Value → aH → Option (Option Value × aH)} (hx : p.tables.exec = Jvm.exec) (hb : c.code = cc) (hml : c.maxLocals = nL) (hown : s.vm.findClass own = some m.cls) (hts : ∀ w ∈ aLT, w.before args s = true) (hN : aNw s) (hK : va_K D vwCl (aTyL cA) s) (hXs : aScr X base ad s H0) (hbase : base ≤ H0.size)
    (hcal : aCal l D cA base X d cal) (hck : ∀ y, y + 1 < aIs.length → aCkWP y) (hfr : d + 9 ≤ R.frames) (hlo : 1000 * (d + 2) ≤ R.locals) {k idx a : Nat} {t : List Value} (hd : st.drop (aNA (k % 1000)) = .ref a :: t)
    (hV : aGo cal (k % 1000) (.ref a :: (st.take (aNA (k % 1000))).reverse) t ls h = some (st', h')) (hy : k % 1000 + 1 < aIs.length) (hw : aWm1 own idx (aIn (k % 1000)).1 lw_tbl[k / 1000]? = true) (hne : (aIn (k % 1000)).1.name = "<init>") (h100 : aCI (k % 1000) ≠ 100) (hret : (aIn (k % 1000)).2.2.2.1 = none)
    (hdg : decode cc pc = .ok (.invokespecial idx, 3)) (hR : aRel D cA base H0 H locs ad h) (hL : lvR LS nL ad ls) (hcells : cells + (h'.1 - h.1) ≤ R.cells) (hslots : slots + (h'.2.1 - h.2.1) ≤ R.slots)
    (kk : ∀ ad' H' locs', aAgr h.1 h'.1 ad ad' → aRel D cA base H0 H' locs' ad' h' → lvR LS nL ad' ls → W p l e R s m args below meth c H' locs' (cells + (h'.1 - h.1)) (slots + (h'.2.1 - h.2.1)) Q (F0 m (pc + 3) LS (st'.map (aCv ad')))) : W p l e R s m args below meth c H locs cells slots Q (F0 m pc LS (st.map (aCv ad))) := by
  obtain ⟨h8, rv, hcall, rfl, ho⟩ := aGo_spec hV
  obtain ⟨hM, hle1, hle2, hwf'⟩ := hcal _ _ _ _ _ hy hR.2.2.2 hcall
  have hcw := hck _ hy
  have hgood := aGoodY hcw
  obtain ⟨w1, -, w3, w4, -, w5, w6, -, w8⟩ := aCkW_spec hcw
  obtain ⟨g1, g2, g3, g4⟩ := w3 h100
  obtain ⟨hn, hst⟩ := aTake hd
  have hstk : st.map (aCv ad) = ((st.take (aNA (k % 1000))).reverse.map (aCv ad)).reverse ++ .ref (ad a) :: t.map (aCv ad) := by
    rw [List.map_reverse, List.reverse_reverse]
    conv => lhs; rw [hst, List.map_append]
    rfl
  have hlen : ((st.take (aNA (k % 1000))).reverse.map (aCv ad)).length = aNA (k % 1000) := by rw [List.length_map, List.length_reverse, hn]
  have h8' : ((t.map (aCv ad)).map fun v => v.category).sum ≤ 8 := by rw [aCat_map]; exact h8
  have hpre := aGo_pre (as := .ref a :: (st.take (aNA (k % 1000))).reverse) hN hK hXs hR hbase
  have hws : aWs1 (k % 1000) = Cond.code (aIn (k % 1000)).1 (aIn (k % 1000)).2.1 (aML (k % 1000)) none :: aGL := by unfold aWs1; rw [hret]
  rcases aWm1_spec hw with hwd | ⟨host, hwd⟩
  · exact aCall_k (va_runI (As := (st.take (aNA (k % 1000))).reverse.map (aCv ad)) (b := ad a) (rest := t.map (aCv ad)) (nL := nL) ⟨hx, hb, hml, hown, hts⟩ (hM ad) ⟨callB_of (aNA (k % 1000)) hts hgood hws rfl rfl (hts _ (aGL_LT w4)) (hts _ (aUs (List.mem_of_getElem? hwd) rfl)) (aPar hcw) (aRoom_ok w8 hfr hlo), hne, hts _ (aGL_LT g1)⟩
      hpre rfl hlen hL.1 hstk (lv_room h8') hdg ⟨hcells, hslots⟩) hR hwf' ho hL kk
  · exact aCall_k (va_runIN (As := (st.take (aNA (k % 1000))).reverse.map (aCv ad)) (b := ad a) (rest := t.map (aCv ad)) (nL := nL) ⟨hx, hb, hml, hown, hts⟩ (hM ad) ⟨va_cnB (aNA (k % 1000)) hts hgood hws rfl rfl (aWm2 hN (List.mem_of_getElem? hwd)) (hts _ (aGL_LT w4)) (aPar hcw) (aRoom_ok w8 hfr hlo), hne, hts _ (aGL_LT g1)⟩
      hpre rfl hlen hL.1 hstk (lv_room h8') hdg ⟨hcells, hslots⟩) hR hwf' ho hL kk
/-- a row of numbers is copied -/
theorem sV_copy (hx : p.tables.exec = Jvm.exec) (hb : c.code = cc) (hml : c.maxLocals = nL) (hown : s.vm.findClass own = some m.cls) (hts : ∀ w ∈ aLT, w.before args s = true) (hK : va_K D vwCl (aTyL cA) s) (hfr : 1 ≤ R.frames) (hlo : 1000 ≤ R.locals) {k idx : Nat}
    (hV : aCopy st h = some (st', h')) (hw : lw_tbl[k / 1000]? = some (.methodLink own idx arraycopyName)) (hnat : Cond.native arraycopyName ∈ aLT) (hstt : Cond.static arraycopyName ∈ aLT) (hini : Cond.initialized "java/lang/System" ∈ aLT)
    (hdg : decode cc pc = .ok (.invokestatic idx, 3)) (hR : aRel D cA base H0 H locs ad h) (hL : lvR LS nL ad ls)
    (kk : ∀ H' locs', aRel D cA base H0 H' locs' ad h' → W p l e R s m args below meth c H' locs' cells slots Q (F0 m (pc + 3) LS (st'.map (aCv ad)))) : W p l e R s m args below meth c H locs cells slots Q (F0 m pc LS (st.map (aCv ad))) := by
  unfold aCopy at hV
  split at hV
  · rename_i n dp a sp b t
    split at hV
    · rename_i hc
      obtain ⟨h8, ha, hb', hca, hcb, hn, hsp, hdp, h1, h2⟩ := hc
      cases hV
      have hea := aW_at (cA := cA) (ad := ad) ha
      rw [show aEl cA ad h a = _ from aElF_num (t := 0) hca (by omega)] at hea
      have heb := aW_at (cA := cA) (ad := ad) hb'
      rw [show aEl cA ad h b = _ from aElF_num (t := 0) hcb (by omega)] at heb
      have nn : ∀ z : Int32, 0 ≤ z.toInt → ¬ z < 0 := fun z hz q => by
        have := Int32.lt_iff_toInt_lt.mp q
        have e0 : (0 : Int32).toInt = 0 := rfl
        omega
      refine va_copyi hx hb (hml.trans hL.1.symm) hown (hts _ (aUs (List.mem_of_getElem? hw) rfl)) (hts _ hnat) (hts _ hstt) (hts _ hini) hK hR.1 hR.2.1 hR.2.2.1 b a 0 0 heb hea (aTyL_at (t := 0) (by omega)) (aTyL_at (t := 0) (by omega)) rfl (nn _ hsp) (nn _ hdp) (nn _ hn) h1 h2 (fun i hi => rfl) hfr ?_ hdg ?_
      · rw [aCat_map]
        have : nativeFrameWords "java/lang/System" "arraycopy" 5 = 7 := by decide
        omega
      · rw [aW_row (M := aRow h.2.2.2 a (va_cpy (h.2.2.2 b) (h.2.2.2 a) sp.toNatClampNeg dp.toNatClampNeg n.toNatClampNeg)) ha hca (by omega) aRow_self (fun b hb => aRow_ne hb)]
        exact fun H1 locs1 h1 h2 h3 => kk H1 locs1 ⟨h1, h2, h3, aWfh_M hR.2.2.2⟩
    · cases hV
  · cases hV
end SIMW
