section SIMP
variable {p : Program} {l : Launch} {e : Env} {R : Room} {s : State} {m : MethodId} {args : Array Value} {below : List Frame} {meth : Method} {c : Code} {H : Heap} {locs : List Loc} {cells slots : Nat} {Q : State → Prop}
variable {cc : ByteArray} {pc len nL b : Nat} {LS : Array Slot} {ad : Nat → Nat} {own : String} {ini : Bool} {spc : List Nat} {real : aI}

theorem sP_iadd (hx : p.tables.exec = Jvm.exec) (hb : c.code = cc) (hown : s.vm.findClass own = some m.cls) (hts : ∀ w ∈ aLT, w.before args s = true) {ls st ls' st' : List Value}
    (haP : aP .iadd ls st = some (ls', st')) (hok : aOk own ini spc b pc real len .iadd = true) (hdg : decode cc pc = .ok (real, len)) (hL : lvR LS nL ad ls)
    (kk : ∀ LS', lvR LS' nL ad ls' → W p l e R s m args below meth c H locs cells slots Q (F0 m (pc + len) LS' (st'.map (aCv ad)))) : W p l e R s m args below meth c H locs cells slots Q (F0 m pc LS (st.map (aCv ad))) := by
  simp only [aOk, Bool.and_eq_true, decide_eq_true_eq] at hok
  obtain ⟨rfl, rfl⟩ := hok
  simp only [aP] at haP
  split at haP
  · cases haP
    exact lv_iadd hx hb hdg (kk _ hL)
  · cases haP

theorem sP_isub (hx : p.tables.exec = Jvm.exec) (hb : c.code = cc) (hown : s.vm.findClass own = some m.cls) (hts : ∀ w ∈ aLT, w.before args s = true) {ls st ls' st' : List Value}
    (haP : aP .isub ls st = some (ls', st')) (hok : aOk own ini spc b pc real len .isub = true) (hdg : decode cc pc = .ok (real, len)) (hL : lvR LS nL ad ls)
    (kk : ∀ LS', lvR LS' nL ad ls' → W p l e R s m args below meth c H locs cells slots Q (F0 m (pc + len) LS' (st'.map (aCv ad)))) : W p l e R s m args below meth c H locs cells slots Q (F0 m pc LS (st.map (aCv ad))) := by
  simp only [aOk, Bool.and_eq_true, decide_eq_true_eq] at hok
  obtain ⟨rfl, rfl⟩ := hok
  simp only [aP] at haP
  split at haP
  · cases haP
    exact lv_isub hx hb hdg (kk _ hL)
  · cases haP

theorem sP_imul (hx : p.tables.exec = Jvm.exec) (hb : c.code = cc) (hown : s.vm.findClass own = some m.cls) (hts : ∀ w ∈ aLT, w.before args s = true) {ls st ls' st' : List Value}
    (haP : aP .imul ls st = some (ls', st')) (hok : aOk own ini spc b pc real len .imul = true) (hdg : decode cc pc = .ok (real, len)) (hL : lvR LS nL ad ls)
    (kk : ∀ LS', lvR LS' nL ad ls' → W p l e R s m args below meth c H locs cells slots Q (F0 m (pc + len) LS' (st'.map (aCv ad)))) : W p l e R s m args below meth c H locs cells slots Q (F0 m pc LS (st.map (aCv ad))) := by
  simp only [aOk, Bool.and_eq_true, decide_eq_true_eq] at hok
  obtain ⟨rfl, rfl⟩ := hok
  simp only [aP] at haP
  split at haP
  · cases haP
    exact lv_imul hx hb hdg (kk _ hL)
  · cases haP

theorem sP_iand (hx : p.tables.exec = Jvm.exec) (hb : c.code = cc) (hown : s.vm.findClass own = some m.cls) (hts : ∀ w ∈ aLT, w.before args s = true) {ls st ls' st' : List Value}
    (haP : aP .iand ls st = some (ls', st')) (hok : aOk own ini spc b pc real len .iand = true) (hdg : decode cc pc = .ok (real, len)) (hL : lvR LS nL ad ls)
    (kk : ∀ LS', lvR LS' nL ad ls' → W p l e R s m args below meth c H locs cells slots Q (F0 m (pc + len) LS' (st'.map (aCv ad)))) : W p l e R s m args below meth c H locs cells slots Q (F0 m pc LS (st.map (aCv ad))) := by
  simp only [aOk, Bool.and_eq_true, decide_eq_true_eq] at hok
  obtain ⟨rfl, rfl⟩ := hok
  simp only [aP] at haP
  split at haP
  · cases haP
    exact lv_iand hx hb hdg (kk _ hL)
  · cases haP

theorem sP_ior (hx : p.tables.exec = Jvm.exec) (hb : c.code = cc) (hown : s.vm.findClass own = some m.cls) (hts : ∀ w ∈ aLT, w.before args s = true) {ls st ls' st' : List Value}
    (haP : aP .ior ls st = some (ls', st')) (hok : aOk own ini spc b pc real len .ior = true) (hdg : decode cc pc = .ok (real, len)) (hL : lvR LS nL ad ls)
    (kk : ∀ LS', lvR LS' nL ad ls' → W p l e R s m args below meth c H locs cells slots Q (F0 m (pc + len) LS' (st'.map (aCv ad)))) : W p l e R s m args below meth c H locs cells slots Q (F0 m pc LS (st.map (aCv ad))) := by
  simp only [aOk, Bool.and_eq_true, decide_eq_true_eq] at hok
  obtain ⟨rfl, rfl⟩ := hok
  simp only [aP] at haP
  split at haP
  · cases haP
    exact lv_ior hx hb hdg (kk _ hL)
  · cases haP

theorem sP_ixor (hx : p.tables.exec = Jvm.exec) (hb : c.code = cc) (hown : s.vm.findClass own = some m.cls) (hts : ∀ w ∈ aLT, w.before args s = true) {ls st ls' st' : List Value}
    (haP : aP .ixor ls st = some (ls', st')) (hok : aOk own ini spc b pc real len .ixor = true) (hdg : decode cc pc = .ok (real, len)) (hL : lvR LS nL ad ls)
    (kk : ∀ LS', lvR LS' nL ad ls' → W p l e R s m args below meth c H locs cells slots Q (F0 m (pc + len) LS' (st'.map (aCv ad)))) : W p l e R s m args below meth c H locs cells slots Q (F0 m pc LS (st.map (aCv ad))) := by
  simp only [aOk, Bool.and_eq_true, decide_eq_true_eq] at hok
  obtain ⟨rfl, rfl⟩ := hok
  simp only [aP] at haP
  split at haP
  · cases haP
    exact lv_ixor hx hb hdg (kk _ hL)
  · cases haP

theorem sP_ishl (hx : p.tables.exec = Jvm.exec) (hb : c.code = cc) (hown : s.vm.findClass own = some m.cls) (hts : ∀ w ∈ aLT, w.before args s = true) {ls st ls' st' : List Value}
    (haP : aP .ishl ls st = some (ls', st')) (hok : aOk own ini spc b pc real len .ishl = true) (hdg : decode cc pc = .ok (real, len)) (hL : lvR LS nL ad ls)
    (kk : ∀ LS', lvR LS' nL ad ls' → W p l e R s m args below meth c H locs cells slots Q (F0 m (pc + len) LS' (st'.map (aCv ad)))) : W p l e R s m args below meth c H locs cells slots Q (F0 m pc LS (st.map (aCv ad))) := by
  simp only [aOk, Bool.and_eq_true, decide_eq_true_eq] at hok
  obtain ⟨rfl, rfl⟩ := hok
  simp only [aP] at haP
  split at haP
  · cases haP
    exact lv_ishl hx hb hdg (kk _ hL)
  · cases haP

theorem sP_ishr (hx : p.tables.exec = Jvm.exec) (hb : c.code = cc) (hown : s.vm.findClass own = some m.cls) (hts : ∀ w ∈ aLT, w.before args s = true) {ls st ls' st' : List Value}
    (haP : aP .ishr ls st = some (ls', st')) (hok : aOk own ini spc b pc real len .ishr = true) (hdg : decode cc pc = .ok (real, len)) (hL : lvR LS nL ad ls)
    (kk : ∀ LS', lvR LS' nL ad ls' → W p l e R s m args below meth c H locs cells slots Q (F0 m (pc + len) LS' (st'.map (aCv ad)))) : W p l e R s m args below meth c H locs cells slots Q (F0 m pc LS (st.map (aCv ad))) := by
  simp only [aOk, Bool.and_eq_true, decide_eq_true_eq] at hok
  obtain ⟨rfl, rfl⟩ := hok
  simp only [aP] at haP
  split at haP
  · cases haP
    exact lv_ishr hx hb hdg (kk _ hL)
  · cases haP

theorem sP_ladd (hx : p.tables.exec = Jvm.exec) (hb : c.code = cc) (hown : s.vm.findClass own = some m.cls) (hts : ∀ w ∈ aLT, w.before args s = true) {ls st ls' st' : List Value}
    (haP : aP .ladd ls st = some (ls', st')) (hok : aOk own ini spc b pc real len .ladd = true) (hdg : decode cc pc = .ok (real, len)) (hL : lvR LS nL ad ls)
    (kk : ∀ LS', lvR LS' nL ad ls' → W p l e R s m args below meth c H locs cells slots Q (F0 m (pc + len) LS' (st'.map (aCv ad)))) : W p l e R s m args below meth c H locs cells slots Q (F0 m pc LS (st.map (aCv ad))) := by
  simp only [aOk, Bool.and_eq_true, decide_eq_true_eq] at hok
  obtain ⟨rfl, rfl⟩ := hok
  simp only [aP] at haP
  split at haP
  · cases haP
    exact lv_ladd hx hb hdg (kk _ hL)
  · cases haP

theorem sP_lsub (hx : p.tables.exec = Jvm.exec) (hb : c.code = cc) (hown : s.vm.findClass own = some m.cls) (hts : ∀ w ∈ aLT, w.before args s = true) {ls st ls' st' : List Value}
    (haP : aP .lsub ls st = some (ls', st')) (hok : aOk own ini spc b pc real len .lsub = true) (hdg : decode cc pc = .ok (real, len)) (hL : lvR LS nL ad ls)
    (kk : ∀ LS', lvR LS' nL ad ls' → W p l e R s m args below meth c H locs cells slots Q (F0 m (pc + len) LS' (st'.map (aCv ad)))) : W p l e R s m args below meth c H locs cells slots Q (F0 m pc LS (st.map (aCv ad))) := by
  simp only [aOk, Bool.and_eq_true, decide_eq_true_eq] at hok
  obtain ⟨rfl, rfl⟩ := hok
  simp only [aP] at haP
  split at haP
  · cases haP
    exact lv_lsub hx hb hdg (kk _ hL)
  · cases haP

theorem sP_lmul (hx : p.tables.exec = Jvm.exec) (hb : c.code = cc) (hown : s.vm.findClass own = some m.cls) (hts : ∀ w ∈ aLT, w.before args s = true) {ls st ls' st' : List Value}
    (haP : aP .lmul ls st = some (ls', st')) (hok : aOk own ini spc b pc real len .lmul = true) (hdg : decode cc pc = .ok (real, len)) (hL : lvR LS nL ad ls)
    (kk : ∀ LS', lvR LS' nL ad ls' → W p l e R s m args below meth c H locs cells slots Q (F0 m (pc + len) LS' (st'.map (aCv ad)))) : W p l e R s m args below meth c H locs cells slots Q (F0 m pc LS (st.map (aCv ad))) := by
  simp only [aOk, Bool.and_eq_true, decide_eq_true_eq] at hok
  obtain ⟨rfl, rfl⟩ := hok
  simp only [aP] at haP
  split at haP
  · cases haP
    exact lv_lmul hx hb hdg (kk _ hL)
  · cases haP

theorem sP_idiv (hx : p.tables.exec = Jvm.exec) (hb : c.code = cc) (hown : s.vm.findClass own = some m.cls) (hts : ∀ w ∈ aLT, w.before args s = true) {ls st ls' st' : List Value}
    (haP : aP .idiv ls st = some (ls', st')) (hok : aOk own ini spc b pc real len .idiv = true) (hdg : decode cc pc = .ok (real, len)) (hL : lvR LS nL ad ls)
    (kk : ∀ LS', lvR LS' nL ad ls' → W p l e R s m args below meth c H locs cells slots Q (F0 m (pc + len) LS' (st'.map (aCv ad)))) : W p l e R s m args below meth c H locs cells slots Q (F0 m pc LS (st.map (aCv ad))) := by
  simp only [aOk, Bool.and_eq_true, decide_eq_true_eq] at hok
  obtain ⟨rfl, rfl⟩ := hok
  simp only [aP] at haP
  split at haP
  · split at haP
    · cases haP
    · rename_i hne
      cases haP
      exact lv_idiv hx hb hdg hne (kk _ hL)
  · cases haP

theorem sP_irem (hx : p.tables.exec = Jvm.exec) (hb : c.code = cc) (hown : s.vm.findClass own = some m.cls) (hts : ∀ w ∈ aLT, w.before args s = true) {ls st ls' st' : List Value}
    (haP : aP .irem ls st = some (ls', st')) (hok : aOk own ini spc b pc real len .irem = true) (hdg : decode cc pc = .ok (real, len)) (hL : lvR LS nL ad ls)
    (kk : ∀ LS', lvR LS' nL ad ls' → W p l e R s m args below meth c H locs cells slots Q (F0 m (pc + len) LS' (st'.map (aCv ad)))) : W p l e R s m args below meth c H locs cells slots Q (F0 m pc LS (st.map (aCv ad))) := by
  simp only [aOk, Bool.and_eq_true, decide_eq_true_eq] at hok
  obtain ⟨rfl, rfl⟩ := hok
  simp only [aP] at haP
  split at haP
  · split at haP
    · cases haP
    · rename_i hne
      cases haP
      exact lv_irem hx hb hdg hne (kk _ hL)
  · cases haP

theorem sP_ldiv (hx : p.tables.exec = Jvm.exec) (hb : c.code = cc) (hown : s.vm.findClass own = some m.cls) (hts : ∀ w ∈ aLT, w.before args s = true) {ls st ls' st' : List Value}
    (haP : aP .ldiv ls st = some (ls', st')) (hok : aOk own ini spc b pc real len .ldiv = true) (hdg : decode cc pc = .ok (real, len)) (hL : lvR LS nL ad ls)
    (kk : ∀ LS', lvR LS' nL ad ls' → W p l e R s m args below meth c H locs cells slots Q (F0 m (pc + len) LS' (st'.map (aCv ad)))) : W p l e R s m args below meth c H locs cells slots Q (F0 m pc LS (st.map (aCv ad))) := by
  simp only [aOk, Bool.and_eq_true, decide_eq_true_eq] at hok
  obtain ⟨rfl, rfl⟩ := hok
  simp only [aP] at haP
  split at haP
  · split at haP
    · cases haP
    · rename_i hne
      cases haP
      exact lv_ldiv hx hb hdg hne (kk _ hL)
  · cases haP

theorem sP_ineg (hx : p.tables.exec = Jvm.exec) (hb : c.code = cc) (hown : s.vm.findClass own = some m.cls) (hts : ∀ w ∈ aLT, w.before args s = true) {ls st ls' st' : List Value}
    (haP : aP .ineg ls st = some (ls', st')) (hok : aOk own ini spc b pc real len .ineg = true) (hdg : decode cc pc = .ok (real, len)) (hL : lvR LS nL ad ls)
    (kk : ∀ LS', lvR LS' nL ad ls' → W p l e R s m args below meth c H locs cells slots Q (F0 m (pc + len) LS' (st'.map (aCv ad)))) : W p l e R s m args below meth c H locs cells slots Q (F0 m pc LS (st.map (aCv ad))) := by
  simp only [aOk, Bool.and_eq_true, decide_eq_true_eq] at hok
  obtain ⟨rfl, rfl⟩ := hok
  simp only [aP] at haP
  split at haP
  · cases haP
    exact lv_ineg hx hb hdg (kk _ hL)
  · cases haP

theorem sP_lcmp (hx : p.tables.exec = Jvm.exec) (hb : c.code = cc) (hown : s.vm.findClass own = some m.cls) (hts : ∀ w ∈ aLT, w.before args s = true) {ls st ls' st' : List Value}
    (haP : aP .lcmp ls st = some (ls', st')) (hok : aOk own ini spc b pc real len .lcmp = true) (hdg : decode cc pc = .ok (real, len)) (hL : lvR LS nL ad ls)
    (kk : ∀ LS', lvR LS' nL ad ls' → W p l e R s m args below meth c H locs cells slots Q (F0 m (pc + len) LS' (st'.map (aCv ad)))) : W p l e R s m args below meth c H locs cells slots Q (F0 m pc LS (st.map (aCv ad))) := by
  simp only [aOk, Bool.and_eq_true, decide_eq_true_eq] at hok
  obtain ⟨rfl, rfl⟩ := hok
  simp only [aP] at haP
  split at haP
  · cases haP
    exact W.lcmp hx hb hdg (kk _ hL)
  · cases haP

theorem sP_iushr (hx : p.tables.exec = Jvm.exec) (hb : c.code = cc) (hown : s.vm.findClass own = some m.cls) (hts : ∀ w ∈ aLT, w.before args s = true) {ls st ls' st' : List Value}
    (haP : aP .iushr ls st = some (ls', st')) (hok : aOk own ini spc b pc real len .iushr = true) (hdg : decode cc pc = .ok (real, len)) (hL : lvR LS nL ad ls)
    (kk : ∀ LS', lvR LS' nL ad ls' → W p l e R s m args below meth c H locs cells slots Q (F0 m (pc + len) LS' (st'.map (aCv ad)))) : W p l e R s m args below meth c H locs cells slots Q (F0 m pc LS (st.map (aCv ad))) := by
  simp only [aOk, Bool.and_eq_true, decide_eq_true_eq] at hok
  obtain ⟨rfl, rfl⟩ := hok
  simp only [aP] at haP
  split at haP
  · cases haP
    exact lv_iushr hx hb hdg rfl (kk _ hL)
  · cases haP

theorem sP_i2l (hx : p.tables.exec = Jvm.exec) (hb : c.code = cc) (hown : s.vm.findClass own = some m.cls) (hts : ∀ w ∈ aLT, w.before args s = true) {ls st ls' st' : List Value}
    (haP : aP .i2l ls st = some (ls', st')) (hok : aOk own ini spc b pc real len .i2l = true) (hdg : decode cc pc = .ok (real, len)) (hL : lvR LS nL ad ls)
    (kk : ∀ LS', lvR LS' nL ad ls' → W p l e R s m args below meth c H locs cells slots Q (F0 m (pc + len) LS' (st'.map (aCv ad)))) : W p l e R s m args below meth c H locs cells slots Q (F0 m pc LS (st.map (aCv ad))) := by
  simp only [aOk, Bool.and_eq_true, decide_eq_true_eq] at hok
  obtain ⟨rfl, rfl⟩ := hok
  simp only [aP] at haP
  split at haP
  · cases haP
    exact lv_i2l hx hb hdg rfl (kk _ hL)
  · cases haP

theorem sP_l2i (hx : p.tables.exec = Jvm.exec) (hb : c.code = cc) (hown : s.vm.findClass own = some m.cls) (hts : ∀ w ∈ aLT, w.before args s = true) {ls st ls' st' : List Value}
    (haP : aP .l2i ls st = some (ls', st')) (hok : aOk own ini spc b pc real len .l2i = true) (hdg : decode cc pc = .ok (real, len)) (hL : lvR LS nL ad ls)
    (kk : ∀ LS', lvR LS' nL ad ls' → W p l e R s m args below meth c H locs cells slots Q (F0 m (pc + len) LS' (st'.map (aCv ad)))) : W p l e R s m args below meth c H locs cells slots Q (F0 m pc LS (st.map (aCv ad))) := by
  simp only [aOk, Bool.and_eq_true, decide_eq_true_eq] at hok
  obtain ⟨rfl, rfl⟩ := hok
  simp only [aP] at haP
  split at haP
  · cases haP
    exact lv_l2i hx hb hdg rfl (kk _ hL)
  · cases haP

theorem sP_lshl (hx : p.tables.exec = Jvm.exec) (hb : c.code = cc) (hown : s.vm.findClass own = some m.cls) (hts : ∀ w ∈ aLT, w.before args s = true) {ls st ls' st' : List Value}
    (haP : aP .lshl ls st = some (ls', st')) (hok : aOk own ini spc b pc real len .lshl = true) (hdg : decode cc pc = .ok (real, len)) (hL : lvR LS nL ad ls)
    (kk : ∀ LS', lvR LS' nL ad ls' → W p l e R s m args below meth c H locs cells slots Q (F0 m (pc + len) LS' (st'.map (aCv ad)))) : W p l e R s m args below meth c H locs cells slots Q (F0 m pc LS (st.map (aCv ad))) := by
  simp only [aOk, Bool.and_eq_true, decide_eq_true_eq] at hok
  obtain ⟨rfl, rfl⟩ := hok
  simp only [aP] at haP
  split at haP
  · cases haP
    exact lv_lshl hx hb hdg rfl (kk _ hL)
  · cases haP

theorem sP_dup (hx : p.tables.exec = Jvm.exec) (hb : c.code = cc) (hown : s.vm.findClass own = some m.cls) (hts : ∀ w ∈ aLT, w.before args s = true) {ls st ls' st' : List Value}
    (haP : aP .dup ls st = some (ls', st')) (hok : aOk own ini spc b pc real len .dup = true) (hdg : decode cc pc = .ok (real, len)) (hL : lvR LS nL ad ls)
    (kk : ∀ LS', lvR LS' nL ad ls' → W p l e R s m args below meth c H locs cells slots Q (F0 m (pc + len) LS' (st'.map (aCv ad)))) : W p l e R s m args below meth c H locs cells slots Q (F0 m pc LS (st.map (aCv ad))) := by
  simp only [aOk, Bool.and_eq_true, decide_eq_true_eq] at hok
  obtain ⟨rfl, rfl⟩ := hok
  simp only [aP] at haP
  split at haP
  · split at haP
    · rename_i hc
      cases haP
      exact lv_dup hx hb hdg (by rw [aCv_cat]; exact hc) (kk _ hL)
    · cases haP
  · cases haP

theorem sP_pop (hx : p.tables.exec = Jvm.exec) (hb : c.code = cc) (hown : s.vm.findClass own = some m.cls) (hts : ∀ w ∈ aLT, w.before args s = true) {ls st ls' st' : List Value}
    (haP : aP .pop ls st = some (ls', st')) (hok : aOk own ini spc b pc real len .pop = true) (hdg : decode cc pc = .ok (real, len)) (hL : lvR LS nL ad ls)
    (kk : ∀ LS', lvR LS' nL ad ls' → W p l e R s m args below meth c H locs cells slots Q (F0 m (pc + len) LS' (st'.map (aCv ad)))) : W p l e R s m args below meth c H locs cells slots Q (F0 m pc LS (st.map (aCv ad))) := by
  simp only [aOk, Bool.and_eq_true, decide_eq_true_eq] at hok
  obtain ⟨rfl, rfl⟩ := hok
  simp only [aP] at haP
  split at haP
  · split at haP
    · rename_i hc
      cases haP
      exact lv_pop hx hb hdg (by rw [aCv_cat]; exact hc) (kk _ hL)
    · cases haP
  · cases haP

theorem sP_dup2 (hx : p.tables.exec = Jvm.exec) (hb : c.code = cc) (hown : s.vm.findClass own = some m.cls) (hts : ∀ w ∈ aLT, w.before args s = true) {ls st ls' st' : List Value}
    (haP : aP .dup2 ls st = some (ls', st')) (hok : aOk own ini spc b pc real len .dup2 = true) (hdg : decode cc pc = .ok (real, len)) (hL : lvR LS nL ad ls)
    (kk : ∀ LS', lvR LS' nL ad ls' → W p l e R s m args below meth c H locs cells slots Q (F0 m (pc + len) LS' (st'.map (aCv ad)))) : W p l e R s m args below meth c H locs cells slots Q (F0 m pc LS (st.map (aCv ad))) := by
  simp only [aOk, Bool.and_eq_true, decide_eq_true_eq] at hok
  obtain ⟨rfl, rfl⟩ := hok
  simp only [aP] at haP
  split at haP
  · split at haP
    · rename_i hc
      cases haP
      exact lv_dup2_11 hx hb hdg (by rw [aCv_cat]; exact hc.1) (by rw [aCv_cat]; exact hc.2) (kk _ hL)
    · cases haP
  · cases haP

theorem sP_bipush (hx : p.tables.exec = Jvm.exec) (hb : c.code = cc) (hown : s.vm.findClass own = some m.cls) (hts : ∀ w ∈ aLT, w.before args s = true) {ls st ls' st' : List Value} {v : Int}
    (haP : aP (.bipush v) ls st = some (ls', st')) (hok : aOk own ini spc b pc real len (.bipush v) = true) (hdg : decode cc pc = .ok (real, len)) (hL : lvR LS nL ad ls)
    (kk : ∀ LS', lvR LS' nL ad ls' → W p l e R s m args below meth c H locs cells slots Q (F0 m (pc + len) LS' (st'.map (aCv ad)))) : W p l e R s m args below meth c H locs cells slots Q (F0 m pc LS (st.map (aCv ad))) := by
  simp only [aP] at haP
  cases haP
  simp only [aOk] at hok
  split at hok
  · simp only [Bool.and_eq_true, decide_eq_true_eq] at hok
    obtain ⟨rfl, h2⟩ := hok
    exact lv_iconst hx hb hdg h2 (kk _ hL)
  · simp only [Bool.and_eq_true, decide_eq_true_eq] at hok
    obtain ⟨rfl, h2⟩ := hok
    exact lv_bipush hx hb hdg h2 (kk _ hL)
  · simp only [Bool.and_eq_true, decide_eq_true_eq] at hok
    obtain ⟨rfl, h2⟩ := hok
    exact lv_sipush hx hb hdg h2 (kk _ hL)
  · cases hok

theorem sP_ldc_w (hx : p.tables.exec = Jvm.exec) (hb : c.code = cc) (hown : s.vm.findClass own = some m.cls) (hts : ∀ w ∈ aLT, w.before args s = true) {ls st ls' st' : List Value} {k : Nat}
    (haP : aP (.ldc_w k) ls st = some (ls', st')) (hok : aOk own ini spc b pc real len (.ldc_w k) = true) (hdg : decode cc pc = .ok (real, len)) (hL : lvR LS nL ad ls)
    (kk : ∀ LS', lvR LS' nL ad ls' → W p l e R s m args below meth c H locs cells slots Q (F0 m (pc + len) LS' (st'.map (aCv ad)))) : W p l e R s m args below meth c H locs cells slots Q (F0 m pc LS (st.map (aCv ad))) := by
  simp only [aP] at haP
  cases haP
  simp only [aOk] at hok
  split at hok
  · simp only [Bool.and_eq_true, decide_eq_true_eq] at hok
    obtain ⟨rfl, h2⟩ := hok
    exact lv_ldc hx hb hown (hts _ (aUs (List.mem_of_getElem? h2) rfl)) hdg (kk _ hL)
  · simp only [Bool.and_eq_true, decide_eq_true_eq] at hok
    obtain ⟨rfl, h2⟩ := hok
    exact lv_ldcw hx hb hown (hts _ (aUs (List.mem_of_getElem? h2) rfl)) hdg (kk _ hL)
  · cases hok

theorem sP_ldc2_w (hx : p.tables.exec = Jvm.exec) (hb : c.code = cc) (hown : s.vm.findClass own = some m.cls) (hts : ∀ w ∈ aLT, w.before args s = true) {ls st ls' st' : List Value} {k : Nat}
    (haP : aP (.ldc2_w k) ls st = some (ls', st')) (hok : aOk own ini spc b pc real len (.ldc2_w k) = true) (hdg : decode cc pc = .ok (real, len)) (hL : lvR LS nL ad ls)
    (kk : ∀ LS', lvR LS' nL ad ls' → W p l e R s m args below meth c H locs cells slots Q (F0 m (pc + len) LS' (st'.map (aCv ad)))) : W p l e R s m args below meth c H locs cells slots Q (F0 m pc LS (st.map (aCv ad))) := by
  simp only [aP] at haP
  cases haP
  simp only [aOk] at hok
  split at hok
  · simp only [Bool.and_eq_true, decide_eq_true_eq] at hok
    obtain ⟨rfl, h2⟩ := hok
    exact lv_ldc2 hx hb hown (hts _ (aUs (List.mem_of_getElem? h2) rfl)) hdg (kk _ hL)
  · cases hok

theorem sP_lconst (hx : p.tables.exec = Jvm.exec) (hb : c.code = cc) (hown : s.vm.findClass own = some m.cls) (hts : ∀ w ∈ aLT, w.before args s = true) {ls st ls' st' : List Value} {k : Fin 2}
    (haP : aP (.lconst k) ls st = some (ls', st')) (hok : aOk own ini spc b pc real len (.lconst k) = true) (hdg : decode cc pc = .ok (real, len)) (hL : lvR LS nL ad ls)
    (kk : ∀ LS', lvR LS' nL ad ls' → W p l e R s m args below meth c H locs cells slots Q (F0 m (pc + len) LS' (st'.map (aCv ad)))) : W p l e R s m args below meth c H locs cells slots Q (F0 m pc LS (st.map (aCv ad))) := by
  simp only [aOk, Bool.and_eq_true, decide_eq_true_eq] at hok
  obtain ⟨rfl, rfl⟩ := hok
  simp only [aP] at haP
  cases haP
  exact lv_lconst hx hb hdg rfl (kk _ hL)

theorem sP_iload (hx : p.tables.exec = Jvm.exec) (hb : c.code = cc) (hown : s.vm.findClass own = some m.cls) (hts : ∀ w ∈ aLT, w.before args s = true) {ls st ls' st' : List Value} {k : Nat}
    (haP : aP (.iload k) ls st = some (ls', st')) (hok : aOk own ini spc b pc real len (.iload k) = true) (hdg : decode cc pc = .ok (real, len)) (hL : lvR LS nL ad ls)
    (kk : ∀ LS', lvR LS' nL ad ls' → W p l e R s m args below meth c H locs cells slots Q (F0 m (pc + len) LS' (st'.map (aCv ad)))) : W p l e R s m args below meth c H locs cells slots Q (F0 m pc LS (st.map (aCv ad))) := by
  simp only [aP] at haP
  split at haP
  · rename_i hk
    cases haP
    have hv := hL.at hk (by intro q; cases q)
    simp only [aOk] at hok
    split at hok
    · simp only [Bool.and_eq_true, decide_eq_true_eq] at hok
      obtain ⟨rfl, rfl⟩ := hok
      exact lv_iload hx hb hdg hv (kk _ hL)
    · simp only [Bool.and_eq_true, decide_eq_true_eq] at hok
      obtain ⟨rfl, h2⟩ := hok
      exact lv_iload_n hx hb hdg h2 hv (kk _ hL)
    · cases hok
  · cases haP

theorem sP_lload (hx : p.tables.exec = Jvm.exec) (hb : c.code = cc) (hown : s.vm.findClass own = some m.cls) (hts : ∀ w ∈ aLT, w.before args s = true) {ls st ls' st' : List Value} {k : Nat}
    (haP : aP (.lload k) ls st = some (ls', st')) (hok : aOk own ini spc b pc real len (.lload k) = true) (hdg : decode cc pc = .ok (real, len)) (hL : lvR LS nL ad ls)
    (kk : ∀ LS', lvR LS' nL ad ls' → W p l e R s m args below meth c H locs cells slots Q (F0 m (pc + len) LS' (st'.map (aCv ad)))) : W p l e R s m args below meth c H locs cells slots Q (F0 m pc LS (st.map (aCv ad))) := by
  simp only [aP] at haP
  split at haP
  · rename_i hk
    cases haP
    have hv := hL.at hk (by intro q; cases q)
    simp only [aOk] at hok
    split at hok
    · simp only [Bool.and_eq_true, decide_eq_true_eq] at hok
      obtain ⟨rfl, rfl⟩ := hok
      exact lv_lload hx hb hdg hv (kk _ hL)
    · simp only [Bool.and_eq_true, decide_eq_true_eq] at hok
      obtain ⟨rfl, h2⟩ := hok
      exact lv_lload_n hx hb hdg h2 hv (kk _ hL)
    · cases hok
  · cases haP

theorem sP_aload (hx : p.tables.exec = Jvm.exec) (hb : c.code = cc) (hown : s.vm.findClass own = some m.cls) (hts : ∀ w ∈ aLT, w.before args s = true) {ls st ls' st' : List Value} {k : Nat}
    (haP : aP (.aload k) ls st = some (ls', st')) (hok : aOk own ini spc b pc real len (.aload k) = true) (hdg : decode cc pc = .ok (real, len)) (hL : lvR LS nL ad ls)
    (kk : ∀ LS', lvR LS' nL ad ls' → W p l e R s m args below meth c H locs cells slots Q (F0 m (pc + len) LS' (st'.map (aCv ad)))) : W p l e R s m args below meth c H locs cells slots Q (F0 m pc LS (st.map (aCv ad))) := by
  simp only [aP] at haP
  split at haP
  · rename_i hk
    cases haP
    have hv := hL.at hk (by intro q; cases q)
    simp only [aOk] at hok
    split at hok
    · simp only [Bool.and_eq_true, decide_eq_true_eq] at hok
      obtain ⟨rfl, rfl⟩ := hok
      exact lv_aload hx hb hdg hv (kk _ hL)
    · simp only [Bool.and_eq_true, decide_eq_true_eq] at hok
      obtain ⟨rfl, h2⟩ := hok
      exact lv_aload_n hx hb hdg h2 hv (kk _ hL)
    · cases hok
  · cases haP

theorem sP_istore (hx : p.tables.exec = Jvm.exec) (hb : c.code = cc) (hown : s.vm.findClass own = some m.cls) (hts : ∀ w ∈ aLT, w.before args s = true) {ls st ls' st' : List Value} {k : Nat}
    (haP : aP (.istore k) ls st = some (ls', st')) (hok : aOk own ini spc b pc real len (.istore k) = true) (hdg : decode cc pc = .ok (real, len)) (hL : lvR LS nL ad ls)
    (kk : ∀ LS', lvR LS' nL ad ls' → W p l e R s m args below meth c H locs cells slots Q (F0 m (pc + len) LS' (st'.map (aCv ad)))) : W p l e R s m args below meth c H locs cells slots Q (F0 m pc LS (st.map (aCv ad))) := by
  simp only [aP] at haP
  split at haP
  · split at haP
    · rename_i hk
      cases haP
      rw [hL.2.2.1] at hk
      simp only [aOk] at hok
      split at hok
      · simp only [Bool.and_eq_true, decide_eq_true_eq] at hok
        obtain ⟨rfl, rfl⟩ := hok
        exact lv_istore hx hb hdg hL.has hk rfl (fun LS' h' => kk LS' (hL.st1 h'))
      · simp only [Bool.and_eq_true, decide_eq_true_eq] at hok
        obtain ⟨rfl, h2⟩ := hok
        exact lv_istore_n hx hb hdg h2 hL.has hk rfl (fun LS' h' => kk LS' (hL.st1 h'))
      · cases hok
    · cases haP
  · cases haP

theorem sP_astore (hx : p.tables.exec = Jvm.exec) (hb : c.code = cc) (hown : s.vm.findClass own = some m.cls) (hts : ∀ w ∈ aLT, w.before args s = true) {ls st ls' st' : List Value} {k : Nat}
    (haP : aP (.astore k) ls st = some (ls', st')) (hok : aOk own ini spc b pc real len (.astore k) = true) (hdg : decode cc pc = .ok (real, len)) (hL : lvR LS nL ad ls)
    (kk : ∀ LS', lvR LS' nL ad ls' → W p l e R s m args below meth c H locs cells slots Q (F0 m (pc + len) LS' (st'.map (aCv ad)))) : W p l e R s m args below meth c H locs cells slots Q (F0 m pc LS (st.map (aCv ad))) := by
  simp only [aP] at haP
  split at haP
  · split at haP
    · rename_i hk
      cases haP
      rw [hL.2.2.1] at hk
      simp only [aOk] at hok
      split at hok
      · simp only [Bool.and_eq_true, decide_eq_true_eq] at hok
        obtain ⟨rfl, rfl⟩ := hok
        exact lv_astore hx hb hdg hL.has hk rfl (fun LS' h' => kk LS' (hL.st1 h'))
      · simp only [Bool.and_eq_true, decide_eq_true_eq] at hok
        obtain ⟨rfl, h2⟩ := hok
        exact lv_astore_n hx hb hdg h2 hL.has hk rfl (fun LS' h' => kk LS' (hL.st1 h'))
      · cases hok
    · cases haP
  · cases haP

theorem sP_lstore (hx : p.tables.exec = Jvm.exec) (hb : c.code = cc) (hown : s.vm.findClass own = some m.cls) (hts : ∀ w ∈ aLT, w.before args s = true) {ls st ls' st' : List Value} {k : Nat}
    (haP : aP (.lstore k) ls st = some (ls', st')) (hok : aOk own ini spc b pc real len (.lstore k) = true) (hdg : decode cc pc = .ok (real, len)) (hL : lvR LS nL ad ls)
    (kk : ∀ LS', lvR LS' nL ad ls' → W p l e R s m args below meth c H locs cells slots Q (F0 m (pc + len) LS' (st'.map (aCv ad)))) : W p l e R s m args below meth c H locs cells slots Q (F0 m pc LS (st.map (aCv ad))) := by
  simp only [aP] at haP
  split at haP
  · split at haP
    · rename_i hk
      cases haP
      rw [hL.2.2.1] at hk
      simp only [aOk] at hok
      split at hok
      · simp only [Bool.and_eq_true, decide_eq_true_eq] at hok
        obtain ⟨rfl, rfl⟩ := hok
        exact lv_lstore hx hb hdg hL.has hk rfl (fun LS' h' => kk LS' (hL.st2 h'))
      · simp only [Bool.and_eq_true, decide_eq_true_eq] at hok
        obtain ⟨rfl, h2⟩ := hok
        exact lv_lstore_n hx hb hdg h2 hL.has hk rfl (fun LS' h' => kk LS' (hL.st2 h'))
      · cases hok
    · cases haP
  · cases haP

theorem sP_iinc (hx : p.tables.exec = Jvm.exec) (hb : c.code = cc) (hown : s.vm.findClass own = some m.cls) (hts : ∀ w ∈ aLT, w.before args s = true) {ls st ls' st' : List Value} {k : Nat} {n : Int}
    (haP : aP (.iinc k n) ls st = some (ls', st')) (hok : aOk own ini spc b pc real len (.iinc k n) = true) (hdg : decode cc pc = .ok (real, len)) (hL : lvR LS nL ad ls)
    (kk : ∀ LS', lvR LS' nL ad ls' → W p l e R s m args below meth c H locs cells slots Q (F0 m (pc + len) LS' (st'.map (aCv ad)))) : W p l e R s m args below meth c H locs cells slots Q (F0 m pc LS (st.map (aCv ad))) := by
  simp only [aOk, Bool.and_eq_true, decide_eq_true_eq] at hok
  obtain ⟨rfl, rfl⟩ := hok
  simp only [aP] at haP
  split at haP
  · rename_i x hk
    split at haP
    · rename_i hl
      cases haP
      rw [hL.2.2.1] at hl
      obtain ⟨j, hj⟩ := List.getElem?_of_mem (lvl_in (ad := ad) hk (by intro q; cases q))
      exact lv_iinc hx hb hdg hL.has hj rfl hl rfl (fun LS' h' => kk LS' (hL.st1 h'))
    · cases haP
  · cases haP

end SIMP
