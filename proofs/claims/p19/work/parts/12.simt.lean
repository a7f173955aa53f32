/-! the ends of blocks -/
theorem aTo_spec {spc : List Nat} {t : Int} {z : Int} (h : aTo spc t = some z) : ∃ q, spc[t.toNat]? = some q ∧ z = (q : Int) := by
  unfold aTo at h
  split at h
  · rename_i q hq
    cases h
    exact ⟨q, hq, rfl⟩
  · cases h
theorem aTab {spc : List Nat} {z : Int} : ∀ {a c : List Int} {j : Nat} {o : Int}, a.map (fun t => aTo spc t) = c.map (fun off => some (z + off)) → a[j]? = some o → ∃ off, c[j]? = some off ∧ aTo spc o = some (z + off) := by
  intro a c j o h hj
  have h1 : (a.map (fun t => aTo spc t))[j]? = some (aTo spc o) := by rw [List.getElem?_map, hj]; rfl
  rw [h, List.getElem?_map] at h1
  cases hc : c[j]? with
  | none => rw [hc] at h1; cases h1
  | some off => rw [hc] at h1; exact ⟨off, rfl, (Option.some.inj h1).symm⟩
theorem aLk {spc : List Nat} {z x : Int} {d d' : Int} (hd : aTo spc d = some (z + d')) : ∀ {a c : List (Int × Int)}, a.map (fun t => (t.1, aTo spc t.2)) = c.map (fun t => (t.1, some (z + t.2))) → aTo spc (Op.lookupswitch.offset a d x) = some (z + Op.lookupswitch.offset c d' x) := by
  intro a
  induction a with
  | nil =>
    intro c h
    cases c with
    | nil => exact hd
    | cons q r => cases h
  | cons q r ih =>
    intro c h
    cases c with
    | nil => cases h
    | cons q' r' =>
      rw [List.map_cons, List.map_cons] at h
      obtain ⟨h1, h2⟩ := List.cons.inj h
      obtain ⟨k, o⟩ := q
      obtain ⟨k', o'⟩ := q'
      have e1 : k = k' := congrArg Prod.fst h1
      have e2 : aTo spc o = some (z + o') := congrArg Prod.snd h1
      subst e1
      rw [Op.lookupswitch.offset_cons, Op.lookupswitch.offset_cons]
      split
      · exact e2
      · exact ih h2
def aRetI : Option Value → aI
  | none => .return_
  | some (.int _) => .ireturn
  | some (.long _) => .lreturn
  | _ => .areturn
/-- what a method gives back, by its code -/
def aRetOk (rt : Nat) : Option Value → Prop
  | none => rt = 0
  | some (.int x) => rt = 1 ∨ rt = 2 ∧ (x = 0 ∨ x = 1)
  | some (.long _) => rt = 3
  | some (.ref _) => rt = 4
  | _ => False
section SIMT
variable {p : Program} {l : Launch} {e : Env} {R : Room} {s : State} {m : MethodId} {args : Array Value} {below : List Frame} {meth : Method} {c : Code} {H : Heap} {locs : List Loc} {cells slots : Nat} {Q : State → Prop}
variable {cc : ByteArray} {pc len b rt : Nat} {LS : Array Slot} {ad : Nat → Nat} {own : String} {ini : Bool} {spc : List Nat} {real : aI} {h : aH} {ls st : List Value} {res : aR}

theorem sT_goto (hx : p.tables.exec = Jvm.exec) (hb : c.code = cc) {n : Int} (haT : aT rt b (.goto n) ls st h = some res) (hok : aOk own ini spc b pc real len (.goto n) = true) (hdg : decode cc pc = .ok (real, len))
    (kj : ∀ b' t, res = .inl (b', ls, t, h) → ∀ q, spc[b']? = some q → W p l e R s m args below meth c H locs cells slots Q (F0 m q LS (t.map (aCv ad))))
    (kend : ∀ rv, res = .inr (rv, h) → aRetOk rt rv → decode cc pc = .ok (aRetI rv, 1) → W p l e R s m args below meth c H locs cells slots Q (F0 m pc LS (rv.map (aCv ad)).toList)) : W p l e R s m args below meth c H locs cells slots Q (F0 m pc LS (st.map (aCv ad))) := by
  simp only [aT] at haT
  cases haT
  simp only [aOk] at hok
  split at hok
  · simp only [Bool.and_eq_true, decide_eq_true_eq] at hok
    obtain ⟨rfl, ht⟩ := hok
    obtain ⟨q, hq, hz⟩ := aTo_spec ht
    exact lv_goto hx hb hdg hz (kj _ _ rfl _ hq)
  · cases hok

theorem sT_ifCond (hx : p.tables.exec = Jvm.exec) (hb : c.code = cc) {c9 : Jvm.ClassFile.Cond} {n : Int} (haT : aT rt b (.ifCond c9 n) ls st h = some res) (hok : aOk own ini spc b pc real len (.ifCond c9 n) = true) (hdg : decode cc pc = .ok (real, len))
    (kj : ∀ b' t, res = .inl (b', ls, t, h) → ∀ q, spc[b']? = some q → W p l e R s m args below meth c H locs cells slots Q (F0 m q LS (t.map (aCv ad))))
    (kend : ∀ rv, res = .inr (rv, h) → aRetOk rt rv → decode cc pc = .ok (aRetI rv, 1) → W p l e R s m args below meth c H locs cells slots Q (F0 m pc LS (rv.map (aCv ad)).toList)) : W p l e R s m args below meth c H locs cells slots Q (F0 m pc LS (st.map (aCv ad))) := by
  simp only [aT] at haT
  split at haT
  · rename_i x t
    cases haT
    simp only [aOk] at hok
    split at hok
    · rename_i c8 off
      simp only [Bool.and_eq_true, decide_eq_true_eq] at hok
      obtain ⟨⟨⟨rfl, rfl⟩, ht⟩, hf⟩ := hok
      obtain ⟨q, hq, hz⟩ := aTo_spec ht
      have k1 : aCd c8 x 0 = true → W p l e R s m args below meth c H locs cells slots Q (F0 m q LS (t.map (aCv ad))) := fun hc => kj n.toNat t (by rw [if_pos hc]) q hq
      have k2 : ¬ aCd c8 x 0 = true → W p l e R s m args below meth c H locs cells slots Q (F0 m (pc + 3) LS (t.map (aCv ad))) := fun hc => kj (b + 1) t (by rw [if_neg hc]) (pc + 3) hf
      cases c8
      case eq => exact lv_if_eq hx hb hdg hz (fun hc => k1 (decide_eq_true hc)) (fun hc => k2 (fun z => hc (of_decide_eq_true z)))
      case ne => exact lv_if_ne hx hb hdg hz (fun hc => k1 (decide_eq_true hc)) (fun hc => k2 (fun z => of_decide_eq_true z hc))
      case lt => exact lv_if_lt hx hb hdg hz (fun hc => k1 (decide_eq_true hc)) (fun hc => k2 (fun z => hc (of_decide_eq_true z)))
      case ge => exact lv_if_ge hx hb hdg hz (fun hc => k1 (decide_eq_true hc)) (fun hc => k2 (fun z => hc (of_decide_eq_true z)))
      case gt => exact lv_if_gt hx hb hdg hz (fun hc => k1 (decide_eq_true hc)) (fun hc => k2 (fun z => hc (of_decide_eq_true z)))
      case le => exact lv_if_le hx hb hdg hz (fun hc => k1 (decide_eq_true hc)) (fun hc => k2 (fun z => hc (of_decide_eq_true z)))
    · cases hok
  · cases haT

theorem sT_if_icmp (hx : p.tables.exec = Jvm.exec) (hb : c.code = cc) {c9 : Jvm.ClassFile.Cond} {n : Int} (haT : aT rt b (.if_icmp c9 n) ls st h = some res) (hok : aOk own ini spc b pc real len (.if_icmp c9 n) = true) (hdg : decode cc pc = .ok (real, len))
    (kj : ∀ b' t, res = .inl (b', ls, t, h) → ∀ q, spc[b']? = some q → W p l e R s m args below meth c H locs cells slots Q (F0 m q LS (t.map (aCv ad))))
    (kend : ∀ rv, res = .inr (rv, h) → aRetOk rt rv → decode cc pc = .ok (aRetI rv, 1) → W p l e R s m args below meth c H locs cells slots Q (F0 m pc LS (rv.map (aCv ad)).toList)) : W p l e R s m args below meth c H locs cells slots Q (F0 m pc LS (st.map (aCv ad))) := by
  simp only [aT] at haT
  split at haT
  · rename_i y x t
    cases haT
    simp only [aOk] at hok
    split at hok
    · rename_i c8 off
      simp only [Bool.and_eq_true, decide_eq_true_eq] at hok
      obtain ⟨⟨⟨rfl, rfl⟩, ht⟩, hf⟩ := hok
      obtain ⟨q, hq, hz⟩ := aTo_spec ht
      have k1 : aCd c8 x y = true → W p l e R s m args below meth c H locs cells slots Q (F0 m q LS (t.map (aCv ad))) := fun hc => kj n.toNat t (by rw [if_pos hc]) q hq
      have k2 : ¬ aCd c8 x y = true → W p l e R s m args below meth c H locs cells slots Q (F0 m (pc + 3) LS (t.map (aCv ad))) := fun hc => kj (b + 1) t (by rw [if_neg hc]) (pc + 3) hf
      cases c8
      case eq => exact lv_icmp_eq hx hb hdg hz (fun hc => k1 (decide_eq_true hc)) (fun hc => k2 (fun z => hc (of_decide_eq_true z)))
      case ne => exact lv_icmp_ne hx hb hdg hz (fun hc => k1 (decide_eq_true hc)) (fun hc => k2 (fun z => of_decide_eq_true z hc))
      case lt => exact lv_icmp_lt hx hb hdg hz (fun hc => k1 (decide_eq_true hc)) (fun hc => k2 (fun z => hc (of_decide_eq_true z)))
      case ge => exact lv_icmp_ge hx hb hdg hz (fun hc => k1 (decide_eq_true hc)) (fun hc => k2 (fun z => hc (of_decide_eq_true z)))
      case gt => exact lv_icmp_gt hx hb hdg hz (fun hc => k1 (decide_eq_true hc)) (fun hc => k2 (fun z => hc (of_decide_eq_true z)))
      case le => exact lv_icmp_le hx hb hdg hz (fun hc => k1 (decide_eq_true hc)) (fun hc => k2 (fun z => hc (of_decide_eq_true z)))
    · cases hok
  · cases haT

theorem sT_tableswitch (hx : p.tables.exec = Jvm.exec) (hb : c.code = cc) {d9 lo hi : Int} {os : Array Int} (haT : aT rt b (.tableswitch d9 lo hi os) ls st h = some res) (hok : aOk own ini spc b pc real len (.tableswitch d9 lo hi os) = true) (hdg : decode cc pc = .ok (real, len))
    (kj : ∀ b' t, res = .inl (b', ls, t, h) → ∀ q, spc[b']? = some q → W p l e R s m args below meth c H locs cells slots Q (F0 m q LS (t.map (aCv ad))))
    (kend : ∀ rv, res = .inr (rv, h) → aRetOk rt rv → decode cc pc = .ok (aRetI rv, 1) → W p l e R s m args below meth c H locs cells slots Q (F0 m pc LS (rv.map (aCv ad)).toList)) : W p l e R s m args below meth c H locs cells slots Q (F0 m pc LS (st.map (aCv ad))) := by
  simp only [aT] at haT
  split at haT
  · rename_i x t
    simp only [aOk] at hok
    split at hok
    · rename_i d8 lo8 hi8 os8
      simp only [Bool.and_eq_true, decide_eq_true_eq] at hok
      obtain ⟨⟨⟨rfl, rfl⟩, hd⟩, hos⟩ := hok
      split at haT
      · rename_i hout
        cases haT
        obtain ⟨q, hq, hz⟩ := aTo_spec hd
        exact lv_tableOut hx hb hdg hout hz (kj _ _ rfl _ hq)
      · rename_i hin
        split at haT
        · rename_i o ho
          cases haT
          have ho' : os.toList[(x.toInt - lo8).toNat]? = some o := by rw [Array.getElem?_toList]; exact ho
          obtain ⟨off, h1, h2⟩ := aTab hos ho'
          obtain ⟨q, hq, hz⟩ := aTo_spec h2
          exact lv_tableIn hx hb hdg (fun z => hin (Or.inl z)) (fun z => hin (Or.inr z)) (by rw [← Array.getElem?_toList]; exact h1) hz (kj _ _ rfl _ hq)
        · cases haT
    · cases hok
  · cases haT

theorem sT_lookupswitch (hx : p.tables.exec = Jvm.exec) (hb : c.code = cc) {d9 : Int} {ps : Array (Int × Int)} (haT : aT rt b (.lookupswitch d9 ps) ls st h = some res) (hok : aOk own ini spc b pc real len (.lookupswitch d9 ps) = true) (hdg : decode cc pc = .ok (real, len))
    (kj : ∀ b' t, res = .inl (b', ls, t, h) → ∀ q, spc[b']? = some q → W p l e R s m args below meth c H locs cells slots Q (F0 m q LS (t.map (aCv ad))))
    (kend : ∀ rv, res = .inr (rv, h) → aRetOk rt rv → decode cc pc = .ok (aRetI rv, 1) → W p l e R s m args below meth c H locs cells slots Q (F0 m pc LS (rv.map (aCv ad)).toList)) : W p l e R s m args below meth c H locs cells slots Q (F0 m pc LS (st.map (aCv ad))) := by
  simp only [aT] at haT
  split at haT
  · rename_i x t
    cases haT
    simp only [aOk] at hok
    split at hok
    · rename_i d8 ps8
      simp only [Bool.and_eq_true, decide_eq_true_eq] at hok
      obtain ⟨⟨hd, hps⟩, hsort⟩ := hok
      have h2 := aLk (x := x.toInt) hd hps
      obtain ⟨q, hq, hz⟩ := aTo_spec h2
      exact lv_lookup hx hb hdg hsort rfl hz (kj _ _ rfl _ hq)
    · cases hok
  · cases haT

theorem sT_ireturn (hx : p.tables.exec = Jvm.exec) (hb : c.code = cc) (haT : aT rt b .ireturn ls st h = some res) (hok : aOk own ini spc b pc real len .ireturn = true) (hdg : decode cc pc = .ok (real, len))
    (kj : ∀ b' t, res = .inl (b', ls, t, h) → ∀ q, spc[b']? = some q → W p l e R s m args below meth c H locs cells slots Q (F0 m q LS (t.map (aCv ad))))
    (kend : ∀ rv, res = .inr (rv, h) → aRetOk rt rv → decode cc pc = .ok (aRetI rv, 1) → W p l e R s m args below meth c H locs cells slots Q (F0 m pc LS (rv.map (aCv ad)).toList)) : W p l e R s m args below meth c H locs cells slots Q (F0 m pc LS (st.map (aCv ad))) := by
  simp only [aOk, Bool.and_eq_true, decide_eq_true_eq] at hok
  obtain ⟨rfl, rfl⟩ := hok
  simp only [aT] at haT
  split at haT
  · split at haT
    · rename_i hc
      cases haT
      exact kend _ rfl hc hdg
    · cases haT
  · cases haT

theorem sT_lreturn (hx : p.tables.exec = Jvm.exec) (hb : c.code = cc) (haT : aT rt b .lreturn ls st h = some res) (hok : aOk own ini spc b pc real len .lreturn = true) (hdg : decode cc pc = .ok (real, len))
    (kj : ∀ b' t, res = .inl (b', ls, t, h) → ∀ q, spc[b']? = some q → W p l e R s m args below meth c H locs cells slots Q (F0 m q LS (t.map (aCv ad))))
    (kend : ∀ rv, res = .inr (rv, h) → aRetOk rt rv → decode cc pc = .ok (aRetI rv, 1) → W p l e R s m args below meth c H locs cells slots Q (F0 m pc LS (rv.map (aCv ad)).toList)) : W p l e R s m args below meth c H locs cells slots Q (F0 m pc LS (st.map (aCv ad))) := by
  simp only [aOk, Bool.and_eq_true, decide_eq_true_eq] at hok
  obtain ⟨rfl, rfl⟩ := hok
  simp only [aT] at haT
  split at haT
  · split at haT
    · rename_i hc
      cases haT
      exact kend _ rfl hc hdg
    · cases haT
  · cases haT

theorem sT_areturn (hx : p.tables.exec = Jvm.exec) (hb : c.code = cc) (haT : aT rt b .areturn ls st h = some res) (hok : aOk own ini spc b pc real len .areturn = true) (hdg : decode cc pc = .ok (real, len))
    (kj : ∀ b' t, res = .inl (b', ls, t, h) → ∀ q, spc[b']? = some q → W p l e R s m args below meth c H locs cells slots Q (F0 m q LS (t.map (aCv ad))))
    (kend : ∀ rv, res = .inr (rv, h) → aRetOk rt rv → decode cc pc = .ok (aRetI rv, 1) → W p l e R s m args below meth c H locs cells slots Q (F0 m pc LS (rv.map (aCv ad)).toList)) : W p l e R s m args below meth c H locs cells slots Q (F0 m pc LS (st.map (aCv ad))) := by
  simp only [aOk, Bool.and_eq_true, decide_eq_true_eq] at hok
  obtain ⟨rfl, rfl⟩ := hok
  simp only [aT] at haT
  split at haT
  · split at haT
    · rename_i hc
      cases haT
      exact kend _ rfl hc hdg
    · cases haT
  · cases haT

theorem sT_return_ (hx : p.tables.exec = Jvm.exec) (hb : c.code = cc) (haT : aT rt b .return_ ls st h = some res) (hok : aOk own ini spc b pc real len .return_ = true) (hdg : decode cc pc = .ok (real, len))
    (kj : ∀ b' t, res = .inl (b', ls, t, h) → ∀ q, spc[b']? = some q → W p l e R s m args below meth c H locs cells slots Q (F0 m q LS (t.map (aCv ad))))
    (kend : ∀ rv, res = .inr (rv, h) → aRetOk rt rv → decode cc pc = .ok (aRetI rv, 1) → W p l e R s m args below meth c H locs cells slots Q (F0 m pc LS (rv.map (aCv ad)).toList)) : W p l e R s m args below meth c H locs cells slots Q (F0 m pc LS (st.map (aCv ad))) := by
  simp only [aOk, Bool.and_eq_true, decide_eq_true_eq] at hok
  obtain ⟨rfl, rfl⟩ := hok
  simp only [aT] at haT
  split at haT
  · split at haT
    · rename_i hc
      cases haT
      exact kend _ rfl hc hdg
    · cases haT
  · cases haT

theorem sim_T (hx : p.tables.exec = Jvm.exec) (hb : c.code = cc) {i : aI} (haT : aT rt b i ls st h = some res) (hok : aOk own ini spc b pc real len i = true) (hdg : decode cc pc = .ok (real, len))
    (kj : ∀ b' t, res = .inl (b', ls, t, h) → ∀ q, spc[b']? = some q → W p l e R s m args below meth c H locs cells slots Q (F0 m q LS (t.map (aCv ad))))
    (kend : ∀ rv, res = .inr (rv, h) → aRetOk rt rv → decode cc pc = .ok (aRetI rv, 1) → W p l e R s m args below meth c H locs cells slots Q (F0 m pc LS (rv.map (aCv ad)).toList)) : W p l e R s m args below meth c H locs cells slots Q (F0 m pc LS (st.map (aCv ad))) := by
  cases i with
  | goto n => exact sT_goto hx hb haT hok hdg kj kend
  | ifCond c9 n => exact sT_ifCond hx hb haT hok hdg kj kend
  | if_icmp c9 n => exact sT_if_icmp hx hb haT hok hdg kj kend
  | tableswitch d9 lo hi os => exact sT_tableswitch hx hb haT hok hdg kj kend
  | lookupswitch d9 ps => exact sT_lookupswitch hx hb haT hok hdg kj kend
  | ireturn => exact sT_ireturn hx hb haT hok hdg kj kend
  | lreturn => exact sT_lreturn hx hb haT hok hdg kj kend
  | areturn => exact sT_areturn hx hb haT hok hdg kj kend
  | return_ => exact sT_return_ hx hb haT hok hdg kj kend
  | _ => cases (show none = some res from haT)
end SIMT
