/-! the instructions that read and write arrays -/
section SIMR
variable {p : Program} {l : Launch} {e : Env} {R : Room} {s : State} {m : MethodId} {args : Array Value} {below : List Frame} {meth : Method} {c : Code} {H : Heap} {locs : List Loc} {cells slots : Nat} {Q : State → Prop}
variable {cc : ByteArray} {pc len b base : Nat} {LS : Array Slot} {ad : Nat → Nat} {own : String} {ini : Bool} {spc : List Nat} {real : aI} {D : va_G} {cA : Nat → ClassId} {H0 : Heap} {X : aX} {h h' : aH} {st st' : List Value}

theorem sQ_iaload (hx : p.tables.exec = Jvm.exec) (hb : c.code = cc) (hK : va_K D vwCl (aTyL cA) s) (hXs : aScr X base ad s H0)
    (haQ : aQ X .iaload st h = some (st', h')) (hok : aOk own ini spc b pc real len .iaload = true) (hdg : decode cc pc = .ok (real, len)) (hR : aRel D cA base H0 H locs ad h)
    (kk : ∀ H' locs', aRel D cA base H0 H' locs' ad h' → W p l e R s m args below meth c H' locs' cells slots Q (F0 m (pc + len) LS (st'.map (aCv ad)))) : W p l e R s m args below meth c H locs cells slots Q (F0 m pc LS (st.map (aCv ad))) := by
  simp only [aOk, Bool.and_eq_true, decide_eq_true_eq] at hok
  obtain ⟨rfl, rfl⟩ := hok
  simp only [aQ] at haQ
  split at haQ
  · rename_i j a t
    split at haQ
    · rename_i h9
      subst h9
      split at haQ
      · rename_i hin
        cases haQ
        exact va_sld hx hb hXs.1 hXs.2.1 hXs.2.2.1 hR.2.2.1 (aIn_in hin) hdg (kk _ _ hR)
      · cases haQ
    · split at haQ
      · rename_i hc
        obtain ⟨ha, hcl, hin⟩ := hc
        cases haQ
        have he := aW_at (cA := cA) (ad := ad) ha
        rw [show aEl cA ad h a = _ from aElF_num (t := 0) hcl (by omega)] at he
        exact va_iald hx hb hK hR.1 a 0 he (aTyL_at (t := 0) (by omega)) (aIn_in hin) hdg (kk _ _ hR)
      · cases haQ
  · cases haQ

theorem sQ_baload (hx : p.tables.exec = Jvm.exec) (hb : c.code = cc) (hK : va_K D vwCl (aTyL cA) s) (hXs : aScr X base ad s H0)
    (haQ : aQ X .baload st h = some (st', h')) (hok : aOk own ini spc b pc real len .baload = true) (hdg : decode cc pc = .ok (real, len)) (hR : aRel D cA base H0 H locs ad h)
    (kk : ∀ H' locs', aRel D cA base H0 H' locs' ad h' → W p l e R s m args below meth c H' locs' cells slots Q (F0 m (pc + len) LS (st'.map (aCv ad)))) : W p l e R s m args below meth c H locs cells slots Q (F0 m pc LS (st.map (aCv ad))) := by
  simp only [aOk, Bool.and_eq_true, decide_eq_true_eq] at hok
  obtain ⟨rfl, rfl⟩ := hok
  simp only [aQ] at haQ
  split at haQ
  · rename_i j a t
    split at haQ
    · rename_i hc
      obtain ⟨ha, hcl, hin⟩ := hc
      cases haQ
      have he := aW_at (cA := cA) (ad := ad) ha
      rw [show aEl cA ad h a = _ from aElF_num (t := 1) hcl (by omega)] at he
      exact va_zald hx hb hK hR.1 a 1 he (aTyL_at (t := 1) (by omega)) (aIn_in hin) hdg (kk _ _ hR)
    · cases haQ
  · cases haQ

theorem sQ_iastore (hx : p.tables.exec = Jvm.exec) (hb : c.code = cc) (hK : va_K D vwCl (aTyL cA) s) (hXs : aScr X base ad s H0)
    (haQ : aQ X .iastore st h = some (st', h')) (hok : aOk own ini spc b pc real len .iastore = true) (hdg : decode cc pc = .ok (real, len)) (hR : aRel D cA base H0 H locs ad h)
    (kk : ∀ H' locs', aRel D cA base H0 H' locs' ad h' → W p l e R s m args below meth c H' locs' cells slots Q (F0 m (pc + len) LS (st'.map (aCv ad)))) : W p l e R s m args below meth c H locs cells slots Q (F0 m pc LS (st.map (aCv ad))) := by
  simp only [aOk, Bool.and_eq_true, decide_eq_true_eq] at hok
  obtain ⟨rfl, rfl⟩ := hok
  simp only [aQ] at haQ
  split at haQ
  · rename_i x j a t
    split at haQ
    · rename_i hc
      obtain ⟨ha, hcl, hin⟩ := hc
      cases haQ
      have he := aW_at (cA := cA) (ad := ad) ha
      rw [show aEl cA ad h a = _ from aElF_num (t := 0) hcl (by omega)] at he
      have hset : (aW cA ad h).set a (ad a, .inl (cA 0, (h.2.2.1 a).2.1, .inl (upd (h.2.2.2 a) j.toNatClampNeg x))) = _ := aW_row (M := aPut h.2.2.2 a j.toNatClampNeg x) ha hcl (by omega) aPut_self (fun b hb => aPut_ne hb)
      refine va_iast hx hb hK hR.1 hR.2.1 hR.2.2.1 a 0 he (aTyL_at (t := 0) (by omega)) (aIn_in hin) hdg ?_
      rw [hset]
      exact fun H1 locs1 h1 h2 h3 => kk H1 locs1 ⟨h1, h2, h3, aWfh_M hR.2.2.2⟩
    · cases haQ
  · cases haQ

theorem sQ_bastore (hx : p.tables.exec = Jvm.exec) (hb : c.code = cc) (hK : va_K D vwCl (aTyL cA) s) (hXs : aScr X base ad s H0)
    (haQ : aQ X .bastore st h = some (st', h')) (hok : aOk own ini spc b pc real len .bastore = true) (hdg : decode cc pc = .ok (real, len)) (hR : aRel D cA base H0 H locs ad h)
    (kk : ∀ H' locs', aRel D cA base H0 H' locs' ad h' → W p l e R s m args below meth c H' locs' cells slots Q (F0 m (pc + len) LS (st'.map (aCv ad)))) : W p l e R s m args below meth c H locs cells slots Q (F0 m pc LS (st.map (aCv ad))) := by
  simp only [aOk, Bool.and_eq_true, decide_eq_true_eq] at hok
  obtain ⟨rfl, rfl⟩ := hok
  simp only [aQ] at haQ
  split at haQ
  · rename_i x j a t
    split at haQ
    · rename_i hc
      obtain ⟨ha, hcl, hin, hx01⟩ := hc
      cases haQ
      have he := aW_at (cA := cA) (ad := ad) ha
      rw [show aEl cA ad h a = _ from aElF_num (t := 1) hcl (by omega)] at he
      have hset : (aW cA ad h).set a (ad a, .inl (cA 1, (h.2.2.1 a).2.1, .inl (upd (h.2.2.2 a) j.toNatClampNeg x))) = _ := aW_row (M := aPut h.2.2.2 a j.toNatClampNeg x) ha hcl (by omega) aPut_self (fun b hb => aPut_ne hb)
      refine va_zast hx hb hK hR.1 hR.2.1 hR.2.2.1 a 1 he (aTyL_at (t := 1) (by omega)) (aIn_in hin) hdg ?_
      rw [show vp_nar .boolean x = x by rcases hx01 with rfl | rfl <;> rfl, hset]
      exact fun H1 locs1 h1 h2 h3 => kk H1 locs1 ⟨h1, h2, h3, aWfh_M hR.2.2.2⟩
    · cases haQ
  · cases haQ

theorem sQ_aaload (hx : p.tables.exec = Jvm.exec) (hb : c.code = cc) (hK : va_K D vwCl (aTyL cA) s) (hXs : aScr X base ad s H0)
    (haQ : aQ X .aaload st h = some (st', h')) (hok : aOk own ini spc b pc real len .aaload = true) (hdg : decode cc pc = .ok (real, len)) (hR : aRel D cA base H0 H locs ad h)
    (kk : ∀ H' locs', aRel D cA base H0 H' locs' ad h' → W p l e R s m args below meth c H' locs' cells slots Q (F0 m (pc + len) LS (st'.map (aCv ad)))) : W p l e R s m args below meth c H locs cells slots Q (F0 m pc LS (st.map (aCv ad))) := by
  simp only [aOk, Bool.and_eq_true, decide_eq_true_eq] at hok
  obtain ⟨rfl, rfl⟩ := hok
  simp only [aQ] at haQ
  split at haQ
  · rename_i j a t
    split at haQ
    · rename_i hc
      obtain ⟨ha, ⟨hc1, hc2⟩, hin⟩ := hc
      cases haQ
      have hcl : (h.2.2.1 a).1 = 100 + ((h.2.2.1 a).1 - 100) := by omega
      have he := aW_at (cA := cA) (ad := ad) ha
      rw [show aEl cA ad h a = _ from aElF_ref hcl (by omega)] at he
      have kk2 := kk _ _ hR
      rw [List.map_cons, aCv_rf] at kk2
      have hr : (aAT.getD ((h.2.2.1 a).1 - 100) .int).isReference = true := by
        rcases (show (h.2.2.1 a).1 - 100 = 2 ∨ (h.2.2.1 a).1 - 100 = 3 ∨ (h.2.2.1 a).1 - 100 = 4 ∨ (h.2.2.1 a).1 - 100 = 5 by omega) with q | q | q | q <;> rw [q] <;> rfl
      exact aWaald hx hb hK hR.1 a ((h.2.2.1 a).1 - 100) hr he (aTyL_at (by omega)) (aIn_in hin) hdg kk2
    · cases haQ
  · cases haQ

theorem sQ_aastore (hx : p.tables.exec = Jvm.exec) (hb : c.code = cc) (hK : va_K D vwCl (aTyL cA) s) (hXs : aScr X base ad s H0)
    (haQ : aQ X .aastore st h = some (st', h')) (hok : aOk own ini spc b pc real len .aastore = true) (hdg : decode cc pc = .ok (real, len)) (hR : aRel D cA base H0 H locs ad h)
    (kk : ∀ H' locs', aRel D cA base H0 H' locs' ad h' → W p l e R s m args below meth c H' locs' cells slots Q (F0 m (pc + len) LS (st'.map (aCv ad)))) : W p l e R s m args below meth c H locs cells slots Q (F0 m pc LS (st.map (aCv ad))) := by
  simp only [aOk, Bool.and_eq_true, decide_eq_true_eq] at hok
  obtain ⟨rfl, rfl⟩ := hok
  simp only [aQ] at haQ
  split at haQ
  · rename_i r j a t
    split at haQ
    · rename_i hc
      obtain ⟨ha, hr, hr1, ⟨h13, hty⟩, hc1, hin⟩ := hc
      cases haQ
      have hcl : (h.2.2.1 a).1 = 100 + ((h.2.2.1 a).1 - 100) := by omega
      have he := aW_at (cA := cA) (ad := ad) ha
      rw [show aEl cA ad h a = _ from aElF_ref hcl (by omega)] at he
      have hv := aW_at (cA := cA) (ad := ad) hr
      rw [show aEl cA ad h r = _ from aElF_obj rfl hr1] at hv
      have hlt : (h.2.2.1 a).1 - 100 < 6 ∧ ∃ q, vwCl[(h.2.2.1 r).1]? = some q ∧ aAT.getD ((h.2.2.1 a).1 - 100) .int = .object q.1 := by
        obtain ⟨q, hq⟩ := aCls_all h13
        rw [hq] at hty
        have h1 : aAT[(h.2.2.1 a).1 - 100]? = some (.object q.1) := hty
        have h2 : (h.2.2.1 a).1 - 100 < aAT.length := (List.getElem?_eq_some_iff.mp h1).1
        refine ⟨h2, q, hq, ?_⟩
        rw [List.getD_eq_getElem?_getD, h1]
        rfl
      obtain ⟨ht6, q, hq, hqt⟩ := hlt
      have ht := aTyL_at (cA := cA) ht6
      rw [hqt] at ht
      refine va_astq (r := q) hx hb hK hR.1 hR.2.1 hR.2.2.1 a ((h.2.2.1 a).1 - 100) r (h.2.2.1 r).1 he ht hv hq (aIn_in hin) hdg ?_
      rw [aW_refA ha hcl (by omega)]
      exact fun H1 locs1 h1 h2 h3 => kk H1 locs1 ⟨h1, h2, h3, aWfh_R hR.2.2.2 hr⟩
    · cases haQ
  · cases haQ

theorem sQ_arraylength (hx : p.tables.exec = Jvm.exec) (hb : c.code = cc) (hK : va_K D vwCl (aTyL cA) s) (hXs : aScr X base ad s H0)
    (haQ : aQ X .arraylength st h = some (st', h')) (hok : aOk own ini spc b pc real len .arraylength = true) (hdg : decode cc pc = .ok (real, len)) (hR : aRel D cA base H0 H locs ad h)
    (kk : ∀ H' locs', aRel D cA base H0 H' locs' ad h' → W p l e R s m args below meth c H' locs' cells slots Q (F0 m (pc + len) LS (st'.map (aCv ad)))) : W p l e R s m args below meth c H locs cells slots Q (F0 m pc LS (st.map (aCv ad))) := by
  simp only [aOk, Bool.and_eq_true, decide_eq_true_eq] at hok
  obtain ⟨rfl, rfl⟩ := hok
  simp only [aQ] at haQ
  split at haQ
  · rename_i a t
    split at haQ
    · rename_i h9
      subst h9
      cases haQ
      exact va_slen hx hb hXs.1 hXs.2.1 hXs.2.2.1 hR.2.2.1 hdg (kk _ _ hR)
    · split at haQ
      · rename_i hc
        obtain ⟨ha, hc1, hc2⟩ := hc
        cases haQ
        have hcl : (h.2.2.1 a).1 = 100 + ((h.2.2.1 a).1 - 100) := by omega
        have he := aW_at (cA := cA) (ad := ad) ha
        by_cases h2 : (h.2.2.1 a).1 - 100 < 2
        · rw [show aEl cA ad h a = _ from aElF_num hcl h2] at he
          exact va_alen hx hb hK hR.1 a ((h.2.2.1 a).1 - 100) he (aTyL_at (by omega)) rfl hdg (kk _ _ hR)
        · rw [show aEl cA ad h a = _ from aElF_ref hcl (by omega)] at he
          exact va_alen hx hb hK hR.1 a ((h.2.2.1 a).1 - 100) he (aTyL_at (by omega)) rfl hdg (kk _ _ hR)
      · cases haQ
  · cases haQ

end SIMR
