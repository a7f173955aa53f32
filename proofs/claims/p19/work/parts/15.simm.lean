/-! blocks, methods, callees -/
theorem aScr.ad {X : aX} {base n n' : Nat} {ad ad' : Nat → Nat} {s : State} {H0 : Heap} (h : aScr X base ad s H0) (hg : aAgr n n' ad ad') : aScr X base ad' s H0 := by
  have e : ad' 90000 = ad 90000 := hg _ (by omega)
  unfold aScr at h ⊢
  rw [e]
  exact ⟨h.1, h.2.1, h.2.2.1, h.2.2.2.ad (fun i => hg _ (by omega))⟩
section SIMM
variable {p : Program} {l : Launch} {e : Env} {R : Room} {s : State} {m : MethodId} {args : Array Value} {below : List Frame} {meth : Method} {c : Code} {Q : State → Prop}
variable {cc : ByteArray} {base d nL rt n0 sl0 : Nat} {ad0 : Nat → Nat} {own : String} {ini : Bool} {spc : List Nat} {D : va_G} {cA : Nat → ClassId} {H0 : Heap} {X : aX} {hF : aH} {rvF : Option Value} {cal : Nat → List Value → aH → Option (Option Value × aH)}
theorem sim_B (hprim : aPrim l D cA base X) (hx : p.tables.exec = Jvm.exec) (hb : c.code = cc) (hml : c.maxLocals = nL) (hown : s.vm.findClass own = some m.cls) (hts : ∀ w ∈ aLT, w.before args s = true) (hini : ini = true → meth.name = "<init>") (hN : aNw s) (hK : va_K D vwCl (aTyL cA) s) (hXs : aScr X base ad0 s H0) (hbase : base ≤ H0.size)
    (hcal : aCal l D cA base X d cal) (hmo : aCmo cal) (hck : ∀ y, y + 1 < aIs.length → aCkWP y) (hfr : d + 9 ≤ R.frames) (hlo : 1000 * (d + 2) ≤ R.locals) (hcells : hF.1 - n0 ≤ R.cells) (hslots : hF.2.1 - sl0 ≤ R.slots) {b : Nat}
    {J : Nat → List Value → List Value → aH → Prop} (hJ : ∀ b' ls st h, J b' ls st h → h.1 ≤ hF.1 ∧ h.2.1 ≤ hF.2.1)
    (kJ : ∀ b' ls st h ad LS H locs q, J b' ls st h → aRel D cA base H0 H locs ad h → lvR LS nL ad ls → n0 ≤ h.1 → sl0 ≤ h.2.1 → aAgr n0 h.1 ad0 ad → spc[b']? = some q → W p l e R s m args below meth c H locs (h.1 - n0) (h.2.1 - sl0) Q (F0 m q LS (st.map (aCv ad))))
    (kE : ∀ ad H locs pc LS, aRel D cA base H0 H locs ad hF → aAgr n0 hF.1 ad0 ad → aRetOk rt rvF → decode cc pc = .ok (aRetI rvF, 1) → W p l e R s m args below meth c H locs (hF.1 - n0) (hF.2.1 - sl0) Q (F0 m pc LS (rvF.map (aCv ad)).toList)) :
    ∀ (r : List aI) (pc : Nat) (ls st : List Value) (h : aH) (ad : Nat → Nat) (LS : Array Slot) (H : Heap) (locs : List Loc) (res : aR), aB X cal rt b r ls st h = some res → (match res with
      | .inl q => J q.1 q.2.1 q.2.2.1 q.2.2.2
      | .inr q => q = (rvF, hF)) → aCk own ini cc spc b pc r = true → aRel D cA base H0 H locs ad h → lvR LS nL ad ls → n0 ≤ h.1 → sl0 ≤ h.2.1 → aAgr n0 h.1 ad0 ad → W p l e R s m args below meth c H locs (h.1 - n0) (h.2.1 - sl0) Q (F0 m pc LS (st.map (aCv ad))) := by
  intro r
  induction r with
  | nil =>
    intro pc ls st h ad LS H locs res hB hres hckb hR hL hn hsl hag
    cases hB
    unfold aCk at hckb
    exact kJ _ _ _ _ ad LS H locs pc hres hR hL hn hsl hag (of_decide_eq_true hckb)
  | cons i r ih =>
    intro pc ls st h ad LS H locs res hB hres hckb hR hL hn hsl hag
    have hfin : (aRh res).1 ≤ hF.1 ∧ (aRh res).2.1 ≤ hF.2.1 := by
      cases res with
      | inl q => exact hJ _ _ _ _ hres
      | inr q =>
        have e1 : q = (rvF, hF) := hres
        subst e1
        exact ⟨Nat.le_refl _, Nat.le_refl _⟩
    unfold aCk at hckb
    split at hckb
    · rename_i real len hdg
      simp only [Bool.and_eq_true] at hckb
      obtain ⟨hok, hrest⟩ := hckb
      unfold aB at hB
      split at hB
      · refine sim_T hx hb hB hok hdg (fun b' t hr q hq => ?_) (fun rv hr hro hdr => ?_)
        · subst hr
          exact kJ b' ls t h ad LS H locs q hres hR hL hn hsl hag hq
        · subst hr
          have e1 : (rv, h) = (rvF, hF) := hres
          cases e1
          exact kE ad H locs pc LS hR hag hro hdr
      · rename_i hkd
        rw [if_neg hkd] at hrest
        split at hB
        · rename_i ls' st' h' hS
          have hm := aS_mo hmo hS
          have hm2 := aB_mo hmo hB
          have l1 : h'.1 ≤ hF.1 := Nat.le_trans hm2.1 hfin.1
          have l2 : h'.2.1 ≤ hF.2.1 := Nat.le_trans hm2.2.1 hfin.2
          refine sim_S hprim hx hb hml hown hts hini hN hK (hXs.ad hag) hbase hcal hck hfr hlo hkd hS hok hdg hR hL ?_ ?_ (fun ad' LS' H' locs' hag' hR' hL' => ?_)
          · have := hm.1
            omega
          · have := hm.2.1
            omega
          · have e1 : h.1 - n0 + (h'.1 - h.1) = h'.1 - n0 := by have := hm.1; omega
            have e2 : h.2.1 - sl0 + (h'.2.1 - h.2.1) = h'.2.1 - sl0 := by have := hm.2.1; omega
            rw [e1, e2]
            exact ih (pc + len) ls' st' h' ad' LS' H' locs' res hB hres hrest hR' hL' (Nat.le_trans hn hm.1) (Nat.le_trans hsl hm.2.1) (hag.trans hag' hn hm.1)
        · cases hB
    · cases hckb
theorem aCkL_at {C : List (List aI)} {b0 b : Nat} {l9 : List aI} (h : aCkL own ini cc spc b0 C = true) (hb : C[b]? = some l9) : ∃ q, spc[b0 + b]? = some q ∧ aCk own ini cc spc (b0 + b) q l9 = true := by
  induction C generalizing b0 b with
  | nil => simp at hb
  | cons a r ih =>
    unfold aCkL at h
    simp only [Bool.and_eq_true] at h
    obtain ⟨h1, h2⟩ := h
    cases b with
    | zero =>
      rw [List.getElem?_cons_zero] at hb
      cases hb
      split at h1
      · rename_i q hq
        exact ⟨q, hq, h1⟩
      · cases h1
    | succ b =>
      rw [List.getElem?_cons_succ] at hb
      obtain ⟨q, h3, h4⟩ := ih h2 hb
      rw [show b0 + (b + 1) = b0 + 1 + b by omega]
      exact ⟨q, h3, h4⟩
theorem sim_E (hprim : aPrim l D cA base X) (hx : p.tables.exec = Jvm.exec) (hb : c.code = cc) (hml : c.maxLocals = nL) (hown : s.vm.findClass own = some m.cls) (hts : ∀ w ∈ aLT, w.before args s = true) (hini : ini = true → meth.name = "<init>") (hN : aNw s) (hK : va_K D vwCl (aTyL cA) s) (hXs : aScr X base ad0 s H0) (hbase : base ≤ H0.size)
    (hcal : aCal l D cA base X d cal) (hmo : aCmo cal) (hck : ∀ y, y + 1 < aIs.length → aCkWP y) (hfr : d + 9 ≤ R.frames) (hlo : 1000 * (d + 2) ≤ R.locals) (hcells : hF.1 - n0 ≤ R.cells) (hslots : hF.2.1 - sl0 ≤ R.slots) {C : List (List aI)} (hC : aCkL own ini cc spc 0 C = true)
    (kE : ∀ ad H locs pc LS, aRel D cA base H0 H locs ad hF → aAgr n0 hF.1 ad0 ad → aRetOk rt rvF → decode cc pc = .ok (aRetI rvF, 1) → W p l e R s m args below meth c H locs (hF.1 - n0) (hF.2.1 - sl0) Q (F0 m pc LS (rvF.map (aCv ad)).toList)) :
    ∀ (f b' : Nat) (ls st : List Value) (h : aH) (ad : Nat → Nat) (LS : Array Slot) (H : Heap) (locs : List Loc) (q : Nat), aE X cal rt C f b' ls st h = some (rvF, hF) → aRel D cA base H0 H locs ad h → lvR LS nL ad ls → n0 ≤ h.1 → sl0 ≤ h.2.1 → aAgr n0 h.1 ad0 ad → spc[b']? = some q → W p l e R s m args below meth c H locs (h.1 - n0) (h.2.1 - sl0) Q (F0 m q LS (st.map (aCv ad))) := by
  intro f
  induction f with
  | zero =>
    intro b' ls st h ad LS H locs q hE
    cases hE
  | succ f ih =>
    intro b' ls st h ad LS H locs q hE hR hL hn hsl hag hq
    unfold aE at hE
    split at hE
    · cases hE
    · rename_i l9 hl9
      obtain ⟨q', h1, h2⟩ := aCkL_at hC hl9
      rw [Nat.zero_add] at h1 h2
      rw [hq] at h1
      cases h1
      refine sim_B hprim hx hb hml hown hts hini hN hK hXs hbase hcal hmo hck hfr hlo hcells hslots (b := b') (J := fun b' ls st h => aE X cal rt C f b' ls st h = some (rvF, hF)) (fun b' ls st h hj => ?_) (fun b' ls st h ad LS H locs q hj hR hL hn hsl hag hq => ih b' ls st h ad LS H locs q hj hR hL hn hsl hag hq) kE l9 q ls st h ad LS H locs (match aB X cal rt b' l9 ls st h with
        | some r => r
        | none => .inr (rvF, hF)) ?_ ?_ h2 hR hL hn hsl hag
      · have := aE_mo hmo hj
        exact ⟨this.1, this.2.1⟩
      · split at hE
        · rename_i hB
          rw [hB]
        · rename_i hB
          rw [hB]
        · cases hE
      · split at hE
        · rename_i hB
          rw [hB]
          exact hE
        · rename_i hB
          rw [hB]
          exact Option.some.inj hE
        · cases hE
end SIMM
