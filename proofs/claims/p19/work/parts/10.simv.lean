/-! the three calls, and what is called of the library -/
section SIMW
variable {p : Program} {l : Launch} {e : Env} {R : Room} {s : State} {m : MethodId} {args : Array Value} {below : List Frame} {meth : Method} {c : Code} {H : Heap} {locs : List Loc} {cells slots : Nat} {Q : State → Prop}
variable {cc : ByteArray} {pc len b base d nL : Nat} {LS : Array Slot} {ad : Nat → Nat} {own : String} {ini : Bool} {spc : List Nat} {real : aI} {D : va_G} {cA : Nat → ClassId} {H0 : Heap} {X : aX} {h h' : aH} {ls st st' : List Value}
theorem aTake {n : Nat} {st t : List Value} {v : Value} (h : st.drop n = v :: t) : (st.take n).length = n ∧ st = st.take n ++ v :: t := by
  refine ⟨?_, by rw [← h, List.take_append_drop]⟩
  have h1 : (st.drop n).length = (v :: t).length := by rw [h]
  rw [List.length_drop, List.length_cons] at h1
  rw [List.length_take]
  omega
theorem aPar {y : Nat} (h : aCkWP y) : (aIn y).1.cls ≠ "java/lang/invoke/MethodHandle" ∧ (aIn y).1.cls ≠ "java/lang/invoke/VarHandle" ∧ (parseMethodDescriptor (aIn y).1.desc).map (fun d => d.parameters.length) = some (aNA y) := by
  obtain ⟨-, -, -, -, -, h5, h6, -, -⟩ := aCkW_spec h
  exact ⟨h5.1, h5.2, h6⟩
theorem aGoodY {y : Nat} (h : aCkWP y) : GoodIn aLT (aWs1 y) := by
  refine aGoodIn fun w hw => ?_
  unfold aWs1 at hw
  rcases List.mem_cons.mp hw with rfl | hw
  · exact (aCkW_spec h).1
  · exact hw
theorem aWm2 {idx : Nat} {y : MethodName} {host : String} (hN : aNw s) (hm : Cond.methodLinkNest own idx y host ∈ lw_tbl) : va_Nw (.methodLinkNest own idx y host) s := hN.1 _ hm rfl
theorem sV_static {cal : Nat → List Value → aH → Option (Option Value × aH)} (hx : p.tables.exec = Jvm.exec) (hb : c.code = cc) (hml : c.maxLocals = nL) (hown : s.vm.findClass own = some m.cls) (hts : ∀ w ∈ aLT, w.before args s = true) (hN : aNw s) (hK : va_K D vwCl (aTyL cA) s) (hXs : aScr X base ad s H0) (hbase : base ≤ H0.size)
    (hcal : aCal l D cA base X d cal) (hck : ∀ y, y + 1 < aIs.length → aCkWP y) (hfr : d + 9 ≤ R.frames) (hlo : 1000 * (d + 2) ≤ R.locals) {k idx : Nat}
    (hV : (if (st.take (aNA (k % 1000))).length = aNA (k % 1000) ∧ aCI (k % 1000) = 100 then aGo cal (k % 1000) (st.take (aNA (k % 1000))).reverse (st.drop (aNA (k % 1000))) ls h else none) = some (st', h')) (hy : k % 1000 + 1 < aIs.length) (hw : aWm1 own idx (aIn (k % 1000)).1 lw_tbl[k / 1000]? = true)
    (hdg : decode cc pc = .ok (.invokestatic idx, 3)) (hR : aRel D cA base H0 H locs ad h) (hL : lvR LS nL ad ls) (hcells : cells + (h'.1 - h.1) ≤ R.cells) (hslots : slots + (h'.2.1 - h.2.1) ≤ R.slots)
    (kk : ∀ ad' H' locs', aAgr h.1 h'.1 ad ad' → aRel D cA base H0 H' locs' ad' h' → lvR LS nL ad' ls → W p l e R s m args below meth c H' locs' (cells + (h'.1 - h.1)) (slots + (h'.2.1 - h.2.1)) Q (F0 m (pc + 3) LS (st'.map (aCv ad')))) : W p l e R s m args below meth c H locs cells slots Q (F0 m pc LS (st.map (aCv ad))) := by
  split at hV
  · rename_i hc
    obtain ⟨hn, hst⟩ := hc
    obtain ⟨h8, rv, hcall, rfl, ho⟩ := aGo_spec hV
    obtain ⟨hM, hle1, hle2, hwf'⟩ := hcal _ _ _ _ _ hy hR.2.2.2 hcall
    have hcw := hck _ hy
    obtain ⟨w1, w2, -, w4, -, w5, w6, -, w8⟩ := aCkW_spec hcw
    have hstk : st.map (aCv ad) = ((st.take (aNA (k % 1000))).reverse.map (aCv ad)).reverse ++ (st.drop (aNA (k % 1000))).map (aCv ad) := by
      rw [List.map_reverse, List.reverse_reverse, ← List.map_append, List.take_append_drop]
    have hlen : ((st.take (aNA (k % 1000))).reverse.map (aCv ad)).length = aNA (k % 1000) := by rw [List.length_map, List.length_reverse, hn]
    have h8' : (((st.drop (aNA (k % 1000))).map (aCv ad)).map fun v => v.category).sum ≤ 8 := by rw [aCat_map]; exact h8
    rcases aWm1_spec hw with hwd | ⟨host, hwd⟩
    · exact aCall_k (va_runS (As := (st.take (aNA (k % 1000))).reverse.map (aCv ad)) (rest := (st.drop (aNA (k % 1000))).map (aCv ad)) (nL := nL) ⟨hx, hb, hml, hown, hts⟩ (hM ad) ⟨callB_of (aNA (k % 1000)) hts (aGoodY hcw) rfl rfl rfl (hts _ (aGL_LT w4)) (hts _ (aUs (List.mem_of_getElem? hwd) rfl)) (aPar hcw) (aRoom_ok w8 hfr hlo), hts _ (aGL_LT (w2 hst))⟩
        (aGo_pre hN hK hXs hR hbase) rfl hlen hL.1 hstk (lv_room h8') hdg ⟨hcells, hslots⟩) hR hwf' ho hL kk
    · exact aCall_k (va_runSN (As := (st.take (aNA (k % 1000))).reverse.map (aCv ad)) (rest := (st.drop (aNA (k % 1000))).map (aCv ad)) (nL := nL) ⟨hx, hb, hml, hown, hts⟩ (hM ad) ⟨va_cnB (aNA (k % 1000)) hts (aGoodY hcw) rfl rfl rfl (aWm2 hN (List.mem_of_getElem? hwd)) (hts _ (aGL_LT w4)) (aPar hcw) (aRoom_ok w8 hfr hlo), hts _ (aGL_LT (w2 hst)), trivial⟩
        (aGo_pre hN hK hXs hR hbase) rfl hlen hL.1 hstk (lv_room h8') hdg ⟨hcells, hslots⟩) hR hwf' ho hL kk
  · cases hV
theorem sV_inst {cal : Nat → List Value → aH → Option (Option Value × aH)} (hx : p.tables.exec = Jvm.exec) (hb : c.code = cc) (hml : c.maxLocals = nL) (hown : s.vm.findClass own = some m.cls) (hts : ∀ w ∈ aLT, w.before args s = true) (hN : aNw s) (hK : va_K D vwCl (aTyL cA) s) (hXs : aScr X base ad s H0) (hbase : base ≤ H0.size)
    (hcal : aCal l D cA base X d cal) (hck : ∀ y, y + 1 < aIs.length → aCkWP y) (hfr : d + 9 ≤ R.frames) (hlo : 1000 * (d + 2) ≤ R.locals) {k idx a : Nat} {t : List Value} (hd : st.drop (aNA (k % 1000)) = .ref a :: t) (ha : a < h.1) (hcl : (h.2.2.1 a).1 = aCI (k % 1000))
    (hV : aGo cal (k % 1000) (.ref a :: (st.take (aNA (k % 1000))).reverse) t ls h = some (st', h')) (hy : k % 1000 + 1 < aIs.length) (hw : aWm1 own idx (aIn (k % 1000)).1 lw_tbl[k / 1000]? = true) (hne : ¬ (aIn (k % 1000)).1.name = "<init>") (h100 : aCI (k % 1000) ≠ 100)
    (hdg : decode cc pc = .ok (.invokevirtual idx, 3)) (hR : aRel D cA base H0 H locs ad h) (hL : lvR LS nL ad ls) (hcells : cells + (h'.1 - h.1) ≤ R.cells) (hslots : slots + (h'.2.1 - h.2.1) ≤ R.slots)
    (kk : ∀ ad' H' locs', aAgr h.1 h'.1 ad ad' → aRel D cA base H0 H' locs' ad' h' → lvR LS nL ad' ls → W p l e R s m args below meth c H' locs' (cells + (h'.1 - h.1)) (slots + (h'.2.1 - h.2.1)) Q (F0 m (pc + 3) LS (st'.map (aCv ad')))) : W p l e R s m args below meth c H locs cells slots Q (F0 m pc LS (st.map (aCv ad))) := by
  obtain ⟨h8, rv, hcall, rfl, ho⟩ := aGo_spec hV
  obtain ⟨hM, hle1, hle2, hwf'⟩ := hcal _ _ _ _ _ hy hR.2.2.2 hcall
  have hcw := hck _ hy
  obtain ⟨w1, -, w3, w4, -, w5, w6, -, w8⟩ := aCkW_spec hcw
  obtain ⟨g1, g2, g3, g4⟩ := w3 h100
  have g4 := g4.resolve_left hne
  obtain ⟨hn, hst⟩ := aTake hd
  have hstk : st.map (aCv ad) = ((st.take (aNA (k % 1000))).reverse.map (aCv ad)).reverse ++ .ref (ad a) :: t.map (aCv ad) := by
    rw [List.map_reverse, List.reverse_reverse]
    conv => lhs; rw [hst, List.map_append]
    rfl
  have hlen : ((st.take (aNA (k % 1000))).reverse.map (aCv ad)).length = aNA (k % 1000) := by rw [List.length_map, List.length_reverse, hn]
  have h8' : ((t.map (aCv ad)).map fun v => v.category).sum ≤ 8 := by rw [aCat_map]; exact h8
  have hrec := aRecv hK hR ha hcl g2
  rw [g3] at hrec
  have hpre := aGo_pre (as := .ref a :: (st.take (aNA (k % 1000))).reverse) hN hK hXs hR hbase
  rcases aWm1_spec hw with hwd | ⟨host, hwd⟩
  · exact aCall_k (va_runV (As := (st.take (aNA (k % 1000))).reverse.map (aCv ad)) (b := ad a) (C := (aIn (k % 1000)).1.cls) (rest := t.map (aCv ad)) (nL := nL) ⟨hx, hb, hml, hown, hts⟩ (hM ad) ⟨callB_of (aNA (k % 1000)) hts (aGoodY hcw) rfl rfl rfl (hts _ (aGL_LT w4)) (hts _ (aUs (List.mem_of_getElem? hwd) rfl)) (aPar hcw) (aRoom_ok w8 hfr hlo), hts _ (aGL_LT g1), hts _ (aGL_LT g4)⟩
      ⟨hpre.1, hrec, hpre.2⟩ rfl hlen hL.1 hstk (lv_room h8') hdg ⟨hcells, hslots⟩) hR hwf' ho hL kk
  · exact aCall_k (va_runVN (As := (st.take (aNA (k % 1000))).reverse.map (aCv ad)) (b := ad a) (C := (aIn (k % 1000)).1.cls) (rest := t.map (aCv ad)) (nL := nL) ⟨hx, hb, hml, hown, hts⟩ (hM ad) ⟨va_cnB (aNA (k % 1000)) hts (aGoodY hcw) rfl rfl rfl (aWm2 hN (List.mem_of_getElem? hwd)) (hts _ (aGL_LT w4)) (aPar hcw) (aRoom_ok w8 hfr hlo), hts _ (aGL_LT g1), hts _ (aGL_LT g4)⟩
      ⟨hpre.1, hrec, hpre.2⟩ rfl hlen hL.1 hstk (lv_room h8') hdg ⟨hcells, hslots⟩) hR hwf' ho hL kk
theorem sV_init {cal : Nat → List Value → aH → Option (Option Value × aH)} (hx : p.tables.exec = Jvm.exec) (hb : c.code = cc) (hml : c.maxLocals = nL) (hown : s.vm.findClass own = some m.cls) (hts : ∀ w ∈ aLT, w.before args s = true) (hN : aNw s) (hK : va_K D vwCl (aTyL cA) s) (hXs : aScr X base ad s H0) (hbase : base ≤ H0.size)
    (hcal : aCal l D cA base X d cal) (hck : ∀ y, y + 1 < aIs.length → aCkWP y) (hfr : d + 9 ≤ R.frames) (hlo : 1000 * (d + 2) ≤ R.locals) {k idx a : Nat} {t : List Value} (hd : st.drop (aNA (k % 1000)) = .ref a :: t)
    (hV : aGo cal (k % 1000) (.ref a :: (st.take (aNA (k % 1000))).reverse) t ls h = some (st', h')) (hy : k % 1000 + 1 < aIs.length) (hw : aWm1 own idx (aIn (k % 1000)).1 lw_tbl[k / 1000]? = true) (hne : (aIn (k % 1000)).1.name = "<init>") (h100 : aCI (k % 1000) ≠ 100) (hret : (aIn (k % 1000)).2.2.2.1 = none)
    (hdg : decode cc pc = .ok (.invokespecial idx, 3)) (hR : aRel D cA base H0 H locs ad h) (hL : lvR LS nL ad ls) (hcells : cells + (h'.1 - h.1) ≤ R.cells) (hslots : slots + (h'.2.1 - h.2.1) ≤ R.slots)
    (kk : ∀ ad' H' locs', aAgr h.1 h'.1 ad ad' → aRel D cA base H0 H' locs' ad' h' → lvR LS nL ad' ls → W p l e R s m args below meth c H' locs' (cells + (h'.1 - h.1)) (slots + (h'.2.1 - h.2.1)) Q (F0 m (pc + 3) LS (st'.map (aCv ad')))) : W p l e R s m args below meth c H locs cells slots Q (F0 m pc LS (st.map (aCv ad))) := by
  obtain ⟨h8, rv, hcall, rfl, ho⟩ := aGo_spec hV
  obtain ⟨hM, hle1, hle2, hwf'⟩ := hcal _ _ _ _ _ hy hR.2.2.2 hcall
  have hcw := hck _ hy
  have hgood := aGoodY hcw
  obtain ⟨w1, -, w3, w4, -, w5, w6, -, w8⟩ := aCkW_spec hcw
  obtain ⟨g1, g2, g3, g4⟩ := w3 h100
  obtain ⟨hn, hst⟩ := aTake hd
  have hstk : st.map (aCv ad) = ((st.take (aNA (k % 1000))).reverse.map (aCv ad)).reverse ++ .ref (ad a) :: t.map (aCv ad) := by
    rw [List.map_reverse, List.reverse_reverse]
    conv => lhs; rw [hst, List.map_append]
    rfl
  have hlen : ((st.take (aNA (k % 1000))).reverse.map (aCv ad)).length = aNA (k % 1000) := by rw [List.length_map, List.length_reverse, hn]
  have h8' : ((t.map (aCv ad)).map fun v => v.category).sum ≤ 8 := by rw [aCat_map]; exact h8
  have hpre := aGo_pre (as := .ref a :: (st.take (aNA (k % 1000))).reverse) hN hK hXs hR hbase
  have hws : aWs1 (k % 1000) = Cond.code (aIn (k % 1000)).1 (aIn (k % 1000)).2.1 (aML (k % 1000)) none :: aGL := by unfold aWs1; rw [hret]
  rcases aWm1_spec hw with hwd | ⟨host, hwd⟩
  · exact aCall_k (va_runI (As := (st.take (aNA (k % 1000))).reverse.map (aCv ad)) (b := ad a) (rest := t.map (aCv ad)) (nL := nL) ⟨hx, hb, hml, hown, hts⟩ (hM ad) ⟨callB_of (aNA (k % 1000)) hts hgood hws rfl rfl (hts _ (aGL_LT w4)) (hts _ (aUs (List.mem_of_getElem? hwd) rfl)) (aPar hcw) (aRoom_ok w8 hfr hlo), hne, hts _ (aGL_LT g1)⟩
      hpre rfl hlen hL.1 hstk (lv_room h8') hdg ⟨hcells, hslots⟩) hR hwf' ho hL kk
  · exact aCall_k (va_runIN (As := (st.take (aNA (k % 1000))).reverse.map (aCv ad)) (b := ad a) (rest := t.map (aCv ad)) (nL := nL) ⟨hx, hb, hml, hown, hts⟩ (hM ad) ⟨va_cnB (aNA (k % 1000)) hts hgood hws rfl rfl (aWm2 hN (List.mem_of_getElem? hwd)) (hts _ (aGL_LT w4)) (aPar hcw) (aRoom_ok w8 hfr hlo), hne, hts _ (aGL_LT g1)⟩
      hpre rfl hlen hL.1 hstk (lv_room h8') hdg ⟨hcells, hslots⟩) hR hwf' ho hL kk
/-- a row of numbers is copied -/
theorem sV_copy (hx : p.tables.exec = Jvm.exec) (hb : c.code = cc) (hml : c.maxLocals = nL) (hown : s.vm.findClass own = some m.cls) (hts : ∀ w ∈ aLT, w.before args s = true) (hK : va_K D vwCl (aTyL cA) s) (hfr : 1 ≤ R.frames) (hlo : 1000 ≤ R.locals) {k idx : Nat}
    (hV : aCopy st h = some (st', h')) (hw : lw_tbl[k / 1000]? = some (.methodLink own idx arraycopyName)) (hnat : Cond.native arraycopyName ∈ aLT) (hstt : Cond.static arraycopyName ∈ aLT) (hini : Cond.initialized "java/lang/System" ∈ aLT)
    (hdg : decode cc pc = .ok (.invokestatic idx, 3)) (hR : aRel D cA base H0 H locs ad h) (hL : lvR LS nL ad ls)
    (kk : ∀ H' locs', aRel D cA base H0 H' locs' ad h' → W p l e R s m args below meth c H' locs' cells slots Q (F0 m (pc + 3) LS (st'.map (aCv ad)))) : W p l e R s m args below meth c H locs cells slots Q (F0 m pc LS (st.map (aCv ad))) := by
  unfold aCopy at hV
  split at hV
  · rename_i n dp a sp b t
    split at hV
    · rename_i hc
      obtain ⟨h8, ha, hb', hca, hcb, hn, hsp, hdp, h1, h2⟩ := hc
      cases hV
      have hea := aW_at (cA := cA) (ad := ad) ha
      rw [show aEl cA ad h a = _ from aElF_num (t := 0) hca (by omega)] at hea
      have heb := aW_at (cA := cA) (ad := ad) hb'
      rw [show aEl cA ad h b = _ from aElF_num (t := 0) hcb (by omega)] at heb
      have nn : ∀ z : Int32, 0 ≤ z.toInt → ¬ z < 0 := fun z hz q => by
        have := Int32.lt_iff_toInt_lt.mp q
        have e0 : (0 : Int32).toInt = 0 := rfl
        omega
      refine va_copyi hx hb (hml.trans hL.1.symm) hown (hts _ (aUs (List.mem_of_getElem? hw) rfl)) (hts _ hnat) (hts _ hstt) (hts _ hini) hK hR.1 hR.2.1 hR.2.2.1 b a 0 0 heb hea (aTyL_at (t := 0) (by omega)) (aTyL_at (t := 0) (by omega)) rfl (nn _ hsp) (nn _ hdp) (nn _ hn) h1 h2 (fun i hi => rfl) hfr ?_ hdg ?_
      · rw [aCat_map]
        have : nativeFrameWords "java/lang/System" "arraycopy" 5 = 7 := by decide
        omega
      · rw [aW_row (M := aRow h.2.2.2 a (va_cpy (h.2.2.2 b) (h.2.2.2 a) sp.toNatClampNeg dp.toNatClampNeg n.toNatClampNeg)) ha hca (by omega) aRow_self (fun b hb => aRow_ne hb)]
        exact fun H1 locs1 h1 h2 h3 => kk H1 locs1 ⟨h1, h2, h3, aWfh_M hR.2.2.2⟩
    · cases hV
  · cases hV
end SIMW
