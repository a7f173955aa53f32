/-! blocks, methods, callees -/
theorem aScr.ad {X : aX} {base n n' : Nat} {ad ad' : Nat → Nat} {s : State} {H0 : Heap} (h : aScr X base ad s H0) (hg : aAgr n n' ad ad') : aScr X base ad' s H0 := by
  have e : ad' 90000 = ad 90000 := hg _ (by omega)
  unfold aScr at h ⊢
  rw [e]
  exact ⟨h.1, h.2.1, h.2.2.1, h.2.2.2.ad (fun i => hg _ (by omega))⟩
section SIMM
variable {p : Program} {l : Launch} {e : Env} {R : Room} {s : State} {m : MethodId} {args : Array Value} {below : List Frame} {meth : Method} {c : Code} {Q : State → Prop}
variable {cc : ByteArray} {base d nL rt n0 sl0 : Nat} {ad0 : Nat → Nat} {own : String} {ini : Bool} {spc : List Nat} {D : va_G} {cA : Nat → ClassId} {H0 : Heap} {X : aX} {hF : aH} {rvF : Option Value} {cal : Nat → List Value → aH → Option (Option Value × aH)}
theorem sim_B (hprim : aPrim l D cA base X) (hx : p.tables.exec = Jvm.exec) (hb : c.code = cc) (hml : c.maxLocals = nL) (hown : s.vm.findClass own = some m.cls) (hts : ∀ w ∈ aLT, w.before args s = true) (hini : ini = true → meth.name = "<init>") (hN : aNw s) (hK : va_K D vwCl (aTyL cA) s) (hXs : aScr X base ad0 s H0) (hbase : base ≤ H0.size)
    (hcal : aCal l D cA base X d cal) (hmo : aCmo cal) (hck : ∀ y, y + 1 < aIs.length → aCkWP y) (hfr : d + 9 ≤ R.frames) (hlo : 1000 * (d + 2) ≤ R.locals) (hcells : hF.1 - n0 ≤ R.cells) (hslots : hF.2.1 - sl0 ≤ R.slots) {b : Nat}
    {J : Nat → List Value → List Value → aH → Prop} (hJ : ∀ b' ls st h, J b' ls st h → h.1 ≤ hF.1 ∧ h.2.1 ≤ hF.2.1)
    (kJ : ∀ b' ls st h ad LS H locs q, J b' ls st h → aRel D cA base H0 H locs ad h → lvR LS nL ad ls → n0 ≤ h.1 → sl0 ≤ h.2.1 → aAgr n0 h.1 ad0 ad → spc[b']? = some q → W p l e R s m args below meth c H locs (h.1 - n0) (h.2.1 - sl0) Q (F0 m q LS (st.map (aCv ad))))
    (kE : ∀ ad H locs pc LS, aRel D cA base H0 H locs ad hF → aAgr n0 hF.1 ad0 ad → aRetOk rt rvF → decode cc pc = .ok (aRetI rvF, 1) → W p l e R s m args below meth c H locs (hF.1 - n0) (hF.2.1 - sl0) Q (F0 m pc LS (rvF.map (aCv ad)).toList)) :
    ∀ (r : List aI) (pc : Nat) (ls st : List Value) (h : aH) (ad : Nat → Nat) (LS : Array Slot) (H : Heap) (locs : List Loc) (res : aR), aB X cal rt b r ls st h = some res → (match res with
      | .inl q => J q.1 q.2.1 q.2.2.1 q.2.2.2
      | .inr q => q = (rvF, hF)) → aCk own ini cc spc b pc r = true → aRel D cA base H0 H locs ad h → lvR LS nL ad ls → n0 ≤ h.1 → sl0 ≤ h.2.1 → aAgr n0 h.1 ad0 ad → W p l e R s m args below meth c H locs (h.1 - n0) (h.2.1 - sl0) Q (F0 m pc LS (st.map (aCv ad))) := by
  intro r
  induction r with
  | nil =>
    intro pc ls st h ad LS H locs res hB hres hckb hR hL hn hsl hag
    cases hB
    unfold aCk at hckb
    exact kJ _ _ _ _ ad LS H locs pc hres hR hL hn hsl hag (of_decide_eq_true hckb)
  | cons i r ih =>
    intro pc ls st h ad LS H locs res hB hres hckb hR hL hn hsl hag
    have hfin : (aRh res).1 ≤ hF.1 ∧ (aRh res).2.1 ≤ hF.2.1 := by
      cases res with
      | inl q => exact hJ _ _ _ _ hres
      | inr q =>
        have e1 : q = (rvF, hF) := hres
        subst e1
        exact ⟨Nat.le_refl _, Nat.le_refl _⟩
    unfold aCk at hckb
    split at hckb
    · rename_i real len hdg
      simp only [Bool.and_eq_true] at hckb
      obtain ⟨hok, hrest⟩ := hckb
      unfold aB at hB
      split at hB
      · refine sim_T hx hb hB hok hdg (fun b' t hr q hq => ?_) (fun rv hr hro hdr => ?_)
        · subst hr
          exact kJ b' ls t h ad LS H locs q hres hR hL hn hsl hag hq
        · subst hr
          have e1 : (rv, h) = (rvF, hF) := hres
          cases e1
          exact kE ad H locs pc LS hR hag hro hdr
      · rename_i hkd
        rw [if_neg hkd] at hrest
        split at hB
        · rename_i ls' st' h' hS
          have hm := aS_mo hmo hS
          have hm2 := aB_mo hmo hB
          have l1 : h'.1 ≤ hF.1 := Nat.le_trans hm2.1 hfin.1
          have l2 : h'.2.1 ≤ hF.2.1 := Nat.le_trans hm2.2.1 hfin.2
          refine sim_S hprim hx hb hml hown hts hini hN hK (hXs.ad hag) hbase hcal hck hfr hlo hkd hS hok hdg hR hL ?_ ?_ (fun ad' LS' H' locs' hag' hR' hL' => ?_)
          · have := hm.1
            omega
          · have := hm.2.1
            omega
          · have e1 : h.1 - n0 + (h'.1 - h.1) = h'.1 - n0 := by have := hm.1; omega
            have e2 : h.2.1 - sl0 + (h'.2.1 - h.2.1) = h'.2.1 - sl0 := by have := hm.2.1; omega
            rw [e1, e2]
            exact ih (pc + len) ls' st' h' ad' LS' H' locs' res hB hres hrest hR' hL' (Nat.le_trans hn hm.1) (Nat.le_trans hsl hm.2.1) (hag.trans hag' hn hm.1)
        · cases hB
    · cases hckb
theorem aCkL_at {C : List (List aI)} {b0 b : Nat} {l9 : List aI} (h : aCkL own ini cc spc b0 C = true) (hb : C[b]? = some l9) : ∃ q, spc[b0 + b]? = some q ∧ aCk own ini cc spc (b0 + b) q l9 = true := by
  induction C generalizing b0 b with
  | nil => simp at hb
  | cons a r ih =>
    unfold aCkL at h
    simp only [Bool.and_eq_true] at h
    obtain ⟨h1, h2⟩ := h
    cases b with
    | zero =>
      rw [List.getElem?_cons_zero] at hb
      cases hb
      split at h1
      · rename_i q hq
        exact ⟨q, hq, h1⟩
      · cases h1
    | succ b =>
      rw [List.getElem?_cons_succ] at hb
      obtain ⟨q, h3, h4⟩ := ih h2 hb
      rw [show b0 + (b + 1) = b0 + 1 + b by omega]
      exact ⟨q, h3, h4⟩
theorem sim_E (hprim : aPrim l D cA base X) (hx : p.tables.exec = Jvm.exec) (hb : c.code = cc) (hml : c.maxLocals = nL) (hown : s.vm.findClass own = some m.cls) (hts : ∀ w ∈ aLT, w.before args s = true) (hini : ini = true → meth.name = "<init>") (hN : aNw s) (hK : va_K D vwCl (aTyL cA) s) (hXs : aScr X base ad0 s H0) (hbase : base ≤ H0.size)
    (hcal : aCal l D cA base X d cal) (hmo : aCmo cal) (hck : ∀ y, y + 1 < aIs.length → aCkWP y) (hfr : d + 9 ≤ R.frames) (hlo : 1000 * (d + 2) ≤ R.locals) (hcells : hF.1 - n0 ≤ R.cells) (hslots : hF.2.1 - sl0 ≤ R.slots) {C : List (List aI)} (hC : aCkL own ini cc spc 0 C = true)
    (kE : ∀ ad H locs pc LS, aRel D cA base H0 H locs ad hF → aAgr n0 hF.1 ad0 ad → aRetOk rt rvF → decode cc pc = .ok (aRetI rvF, 1) → W p l e R s m args below meth c H locs (hF.1 - n0) (hF.2.1 - sl0) Q (F0 m pc LS (rvF.map (aCv ad)).toList)) :
    ∀ (f b' : Nat) (ls st : List Value) (h : aH) (ad : Nat → Nat) (LS : Array Slot) (H : Heap) (locs : List Loc) (q : Nat), aE X cal rt C f b' ls st h = some (rvF, hF) → aRel D cA base H0 H locs ad h → lvR LS nL ad ls → n0 ≤ h.1 → sl0 ≤ h.2.1 → aAgr n0 h.1 ad0 ad → spc[b']? = some q → W p l e R s m args below meth c H locs (h.1 - n0) (h.2.1 - sl0) Q (F0 m q LS (st.map (aCv ad))) := by
  intro f
  induction f with
  | zero =>
    intro b' ls st h ad LS H locs q hE
    cases hE
  | succ f ih =>
    intro b' ls st h ad LS H locs q hE hR hL hn hsl hag hq
    unfold aE at hE
    split at hE
    · cases hE
    · rename_i l9 hl9
      obtain ⟨q', h1, h2⟩ := aCkL_at hC hl9
      rw [Nat.zero_add] at h1 h2
      rw [hq] at h1
      cases h1
      refine sim_B hprim hx hb hml hown hts hini hN hK hXs hbase hcal hmo hck hfr hlo hcells hslots (b := b') (J := fun b' ls st h => aE X cal rt C f b' ls st h = some (rvF, hF)) (fun b' ls st h hj => ?_) (fun b' ls st h ad LS H locs q hj hR hL hn hsl hag hq => ih b' ls st h ad LS H locs q hj hR hL hn hsl hag hq) kE l9 q ls st h ad LS H locs (match aB X cal rt b' l9 ls st h with
        | some r => r
        | none => .inr (rvF, hF)) ?_ ?_ h2 hR hL hn hsl hag
      · have := aE_mo hmo hj
        exact ⟨this.1, this.2.1⟩
      · split at hE
        · rename_i hB
          rw [hB]
        · rename_i hB
          rw [hB]
        · cases hE
      · split at hE
        · rename_i hB
          rw [hB]
          exact hE
        · rename_i hB
          rw [hB]
          exact Option.some.inj hE
        · cases hE
end SIMM
/-! methods by contract, at any depth -/
theorem aFl_cons (a : Value) (r : List Value) : aFl (a :: r) = (if a.category = 2 then [a, aD] else [a]) ++ aFl r := by
  unfold aFl
  rw [List.flatMap_cons]
theorem aSl_cons (a : Value) (r : List Value) : lg_sl (a :: r) = (if a.category = 2 then [.val a, .second] else [.val a]) ++ lg_sl r := by
  unfold lg_sl
  rw [List.flatMap_cons]
theorem aFl_len (ad : Nat → Nat) : ∀ as : List Value, (lg_sl (as.map (aCv ad))).length = (aFl as).length := by
  intro as
  induction as with
  | nil => rfl
  | cons a r ih =>
    rw [List.map_cons, aSl_cons, aFl_cons, List.length_append, List.length_append, ih, aCv_cat]
    split <;> rfl
theorem aFl_at (ad : Nat → Nat) : ∀ (as : List Value) (i : Nat) (v : Value), (aFl as)[i]? = some v → v ≠ aD → (lg_sl (as.map (aCv ad)))[i]? = some (.val (aCv ad v)) := by
  intro as
  induction as with
  | nil => intro i v h _; cases h
  | cons a r ih =>
    intro i v h hv
    rw [List.map_cons, aSl_cons, aCv_cat]
    rw [aFl_cons] at h
    by_cases hc : a.category = 2
    · rw [if_pos hc] at h ⊢
      match i, h with
      | 0, h => cases h; rfl
      | 1, h => cases h; exact absurd rfl hv
      | i + 2, h => exact ih i v h hv
    · rw [if_neg hc] at h ⊢
      match i, h with
      | 0, h => cases h; rfl
      | i + 1, h => exact ih i v h hv
theorem aEn_rel {ad : Nat → Nat} {as : List Value} {n : Nat} (hle : (aFl as).length ≤ n) : lvR ((lg_sl (as.map (aCv ad)) ++ List.replicate (n - (lg_sl (as.map (aCv ad))).length) Slot.unset).toArray) n ad (aEn as n) := by
  have hl := lv_entry (as.map (aCv ad)) (n := n) (by rw [aFl_len]; exact hle)
  refine ⟨hl.1, hl.2.1, ?_, fun i v hi hv => ?_⟩
  · unfold aEn
    rw [List.length_append, List.length_replicate]
    omega
  · unfold aEn at hi
    by_cases h1 : i < (aFl as).length
    · rw [List.getElem?_append_left h1] at hi
      rw [List.getElem?_toArray, List.getElem?_append_left (by rw [aFl_len]; exact h1)]
      exact aFl_at ad as i v hi hv
    · rw [List.getElem?_append_right (by omega)] at hi
      have := List.mem_of_getElem? hi
      exact absurd (List.eq_of_mem_replicate this) hv
theorem aHts {y : Nat} {s : State} {args : Array Value} (h0 : ∀ w ∈ aWs1 y, w.before args s = true) (hN : aNw s) : ∀ w ∈ aLT, w.before args s = true := by
  intro w hw
  obtain ⟨h1, h2⟩ := List.mem_filter.mp hw
  by_cases hg : goodWord w = true
  · exact h0 w (List.mem_cons_of_mem _ (aGs h1 hg))
  · have h3 : aNst w = true := by
      rw [Bool.or_eq_true] at h2
      exact h2.resolve_left hg
    have h4 := hN.1 w h1 h3
    cases w <;> first | exact va_Nw.use rfl h4 | cases h3
theorem aRt_int {rt : Nat} {r : Option FieldType} {x : Int32} (h : aRtOk rt r = true) (hv : aRetOk rt (some (.int x))) : ∃ ty, r = some ty ∧ narrow ty (.int x) = .int x := by
  rcases hv with rfl | ⟨rfl, hx⟩
  · match r, h with
    | some .int, _ => exact ⟨_, rfl, rfl⟩
  · match r, h with
    | some .boolean, _ =>
      refine ⟨_, rfl, ?_⟩
      rcases hx with rfl | rfl <;> rfl
theorem sim_M {l : Launch} {D : va_G} {cA : Nat → ClassId} {base : Nat} {X : aX} {d F y : Nat} {as : List Value} {h h' : aH} {rv : Option Value} (hprim : aPrim l D cA base X) (hcal : aCal l D cA base X d (aM X F d)) (hck : ∀ y, y + 1 < aIs.length → aCkWP y) (hy : y + 1 < aIs.length) (hckM : aCkM y = true)
    (hrun : aM X F (d + 1) y as h = some (rv, h')) (hwf : aWfh h) : aMet l D cA base X (d + 1) y as h rv h' := by
  intro ad
  obtain ⟨w1, -, -, -, w5, -, -, w7, -⟩ := aCkW_spec (hck y hy)
  refine Met.ofW (cc := (aIn y).2.1) (maxL := aML y) (ret := (aIn y).2.2.2.1) w5 rfl ?_
  intro p e s m args below meth c s₁ B hml hv
  obtain ⟨rfl, hbase, hK, hP, hD, hXs, hN⟩ := hv
  have hx := B.exec
  have hb := B.bytes
  have hr := B.returns
  have hts := aHts (atoms_spec (ws := aWs1 y) B.pre) hN
  have hown : s.vm.findClass (aIn y).1.cls = some m.cls := findClass_of_methodNamed B.named
  have hlocks := B.notSynchronized
  have hin : meth.name = (aIn y).1.name := (name_of_methodNamed B.named B.method).1
  unfold aCkM at hckM
  simp only [Bool.and_eq_true, decide_eq_true_eq] at hckM
  obtain ⟨hC, hsp0⟩ := hckM
  unfold aM at hrun
  split at hrun
  · rename_i hlen
    rw [lg_entry_eq]
    have hL := aEn_rel (ad := ad) hlen.1
    have hS : va_S (fun q => base ≤ q) s.heap s.heap [] := va_S.rf
    have k := sim_E (e := e) (below := below) (R := (headSpec (aWs1 y) (aRm (d + 1) (h'.1 - h.1) (h'.2.1 - h.2.1))).room) (Q := MQ below (aPost D cA base ad h rv h') (as.map (aCv ad)).toArray s (h'.1 - h.1) (h'.2.1 - h.2.1) (fun q => base ≤ q)) (rt := aRT y) (n0 := h.1) (sl0 := h.2.1) (ad0 := ad) (hF := h') (rvF := rv) hprim hx hb hml hown hts
      (fun hi => hin.trans (of_decide_eq_true hi)) hN hK hXs hbase hcal (aM_mo d) hck (by show d + 9 ≤ d + 1 + 8; omega) (by show 1000 * (d + 2) ≤ 1000 * (d + 1 + 1); omega) (Nat.le_refl _) (Nat.le_refl _) hC ?_
      F 0 (aEn as (aML y)) [] h ad _ s.heap [] 0 hrun ⟨hP, hD, hS, hwf⟩ hL (Nat.le_refl _) (Nat.le_refl _) aAgr.rf hsp0
    · rw [Nat.sub_self, Nat.sub_self] at k
      exact k
    · intro ad' H locs pc LS hR hag hro hdg
      have hq : ∀ t : State, t.heap = H → s.WarmedH t.vm → aPost D cA base ad h rv h' (as.map (aCv ad)).toArray s (.returned (rv.map (aCv ad'))) t := fun t ht _ => ⟨ad', hag, rfl, by rw [ht]; exact hR.1, hR.2.1, hR.2.2.1.F ht⟩
      have hf : ∀ q ∈ locs, base ≤ q.base := hR.2.2.1.2.2
      match rv, hro, hdg, hq with
      | none, hro, hdg, hq =>
        have hro : aRT y = 0 := hro
        rw [hro] at w7
        have hr0 : (aIn y).2.2.2.1 = none := by
          cases hz : (aIn y).2.2.2.1 with
          | none => rfl
          | some t => rw [hz] at w7; cases t <;> cases w7
        exact W.vret hx hb (hr.trans hr0) hq hf hdg
      | some (.int x), hro, hdg, hq =>
        obtain ⟨ty, h1, h2⟩ := aRt_int w7 hro
        exact W.zret hx hb (hr.trans h1) h2 hq hf hdg
      | some (.long x), hro, hdg, hq =>
        have hro : aRT y = 3 := hro
        rw [hro] at w7
        have hr0 : (aIn y).2.2.2.1 = some .long := by
          cases hz : (aIn y).2.2.2.1 with
          | none => rw [hz] at w7; cases w7
          | some t => rw [hz] at w7; cases t <;> first | rfl | cases w7
        exact W.lret hx hb (hr.trans hr0) hq hf hdg
      | some (.ref x), hro, hdg, hq =>
        have hro : aRT y = 4 := hro
        rw [hro] at w7
        have hr0 : ∃ C, (aIn y).2.2.2.1 = some (.object C) := by
          cases hz : (aIn y).2.2.2.1 with
          | none => rw [hz] at w7; cases w7
          | some t => rw [hz] at w7; cases t <;> first | exact ⟨_, rfl⟩ | cases w7
        obtain ⟨C, hr0⟩ := hr0
        exact W.aret hx hb (hr.trans hr0) (Or.inl ⟨C, rfl⟩) (Or.inr ⟨_, rfl⟩) hq hf hdg
      | some (.float _), hro, _, _ => exact hro.elim
      | some (.double _), hro, _, _ => exact hro.elim
      | some .null, hro, _, _ => exact hro.elim
      | some (.retAddr _), hro, _, _ => exact hro.elim
  · cases hrun
/-- every callee, at every depth -/
theorem sim_all {l : Launch} {D : va_G} {cA : Nat → ClassId} {base : Nat} {X : aX} {F : Nat} (hprim : aPrim l D cA base X) (hck : ∀ y, y + 1 < aIs.length → aCkWP y) (hckM : ∀ y, y + 1 < aIs.length → aCkM y = true) : ∀ d, aCal l D cA base X d (aM X F d) := by
  intro d
  induction d with
  | zero =>
    intro y as h rv h' _ _ hrun
    cases hrun
  | succ d ih =>
    intro y as h rv h' hy hwf hrun
    have hm := aM_mo (d + 1) y as h rv h' hrun
    exact ⟨sim_M hprim ih hck hy (hckM y hy) hrun hwf, hm.1, hm.2.1, hm.2.2 hwf⟩
