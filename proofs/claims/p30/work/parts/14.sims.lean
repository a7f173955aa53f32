/-! one instruction, a block, the blocks of a method: the machine does as the abstract one -/
section SIMS
variable {p : Program} {l : Launch} {e : Env} {R : Room} {s : State} {m : MethodId} {args : Array Value} {below : List Frame} {meth : Method} {c : Code} {H : Heap} {locs : List Loc} {cells slots : Nat} {Q : State → Prop}
variable {cc : ByteArray} {pc len b base d nL rt : Nat} {LS : Array Slot} {ad : Nat → Nat} {own : String} {ini : Bool} {spc : List Nat} {real : aI} {D : va_G} {cA : Nat → ClassId} {H0 : Heap} {X : aX} {h h' : aH} {ls st ls' st' : List Value}
theorem sim_P (hx : p.tables.exec = Jvm.exec) (hb : c.code = cc) (hown : s.vm.findClass own = some m.cls) (hts : ∀ w ∈ aLT, w.before args s = true) {i : aI} (hS : ∀ k, i ≠ .ldc k)
    (haP : aP i ls st = some (ls', st')) (hok : aOk own ini spc b pc real len i = true) (hdg : decode cc pc = .ok (real, len)) (hL : lvR LS nL ad ls)
    (kk : ∀ LS', lvR LS' nL ad ls' → W p l e R s m args below meth c H locs cells slots Q (F0 m (pc + len) LS' (st'.map (aCv ad)))) : W p l e R s m args below meth c H locs cells slots Q (F0 m pc LS (st.map (aCv ad))) := by
  cases i with
  | iadd => exact sP_iadd hx hb hown hts haP hok hdg hL kk
  | isub => exact sP_isub hx hb hown hts haP hok hdg hL kk
  | imul => exact sP_imul hx hb hown hts haP hok hdg hL kk
  | iand => exact sP_iand hx hb hown hts haP hok hdg hL kk
  | ior => exact sP_ior hx hb hown hts haP hok hdg hL kk
  | ixor => exact sP_ixor hx hb hown hts haP hok hdg hL kk
  | ishl => exact sP_ishl hx hb hown hts haP hok hdg hL kk
  | ishr => exact sP_ishr hx hb hown hts haP hok hdg hL kk
  | ladd => exact sP_ladd hx hb hown hts haP hok hdg hL kk
  | lsub => exact sP_lsub hx hb hown hts haP hok hdg hL kk
  | lmul => exact sP_lmul hx hb hown hts haP hok hdg hL kk
  | idiv => exact sP_idiv hx hb hown hts haP hok hdg hL kk
  | irem => exact sP_irem hx hb hown hts haP hok hdg hL kk
  | ldiv => exact sP_ldiv hx hb hown hts haP hok hdg hL kk
  | ineg => exact sP_ineg hx hb hown hts haP hok hdg hL kk
  | lcmp => exact sP_lcmp hx hb hown hts haP hok hdg hL kk
  | iushr => exact sP_iushr hx hb hown hts haP hok hdg hL kk
  | i2l => exact sP_i2l hx hb hown hts haP hok hdg hL kk
  | l2i => exact sP_l2i hx hb hown hts haP hok hdg hL kk
  | lshl => exact sP_lshl hx hb hown hts haP hok hdg hL kk
  | dup => exact sP_dup hx hb hown hts haP hok hdg hL kk
  | pop => exact sP_pop hx hb hown hts haP hok hdg hL kk
  | dup2 => exact sP_dup2 hx hb hown hts haP hok hdg hL kk
  | bipush k => exact sP_bipush hx hb hown hts haP hok hdg hL kk
  | ldc_w k => exact sP_ldc_w hx hb hown hts haP hok hdg hL kk
  | ldc2_w k => exact sP_ldc2_w hx hb hown hts haP hok hdg hL kk
  | lconst k => exact sP_lconst hx hb hown hts haP hok hdg hL kk
  | iload k => exact sP_iload hx hb hown hts haP hok hdg hL kk
  | lload k => exact sP_lload hx hb hown hts haP hok hdg hL kk
  | aload k => exact sP_aload hx hb hown hts haP hok hdg hL kk
  | istore k => exact sP_istore hx hb hown hts haP hok hdg hL kk
  | lstore k => exact sP_lstore hx hb hown hts haP hok hdg hL kk
  | astore k => exact sP_astore hx hb hown hts haP hok hdg hL kk
  | iinc k n => exact sP_iinc hx hb hown hts haP hok hdg hL kk
  | ldc k => exact absurd rfl (hS k)
  | _ => cases (show none = some (ls', st') from haP)
theorem sim_Q (hx : p.tables.exec = Jvm.exec) (hb : c.code = cc) (hown : s.vm.findClass own = some m.cls) (hts : ∀ w ∈ aLT, w.before args s = true) (hini : ini = true → meth.name = "<init>") (hK : va_K D vwCl (aTyL cA) s) (hXs : aScr X base ad s H0) {i : aI}
    (haQ : aQ X i st h = some (st', h')) (hok : aOk own ini spc b pc real len i = true) (hdg : decode cc pc = .ok (real, len)) (hR : aRel D cA base H0 H locs ad h)
    (kk : ∀ H' locs', aRel D cA base H0 H' locs' ad h' → W p l e R s m args below meth c H' locs' cells slots Q (F0 m (pc + len) LS (st'.map (aCv ad)))) : W p l e R s m args below meth c H locs cells slots Q (F0 m pc LS (st.map (aCv ad))) := by
  cases i with
  | getfield k => exact sQ_getfield hx hb hown hts hK haQ hok hdg hR kk
  | putfield k => exact sQ_putfield hx hb hown hts hini hK haQ hok hdg hR kk
  | iaload => exact sQ_iaload hx hb hK hXs haQ hok hdg hR kk
  | iastore => exact sQ_iastore hx hb hK hXs haQ hok hdg hR kk
  | baload => exact sQ_baload hx hb hK hXs haQ hok hdg hR kk
  | bastore => exact sQ_bastore hx hb hK hXs haQ hok hdg hR kk
  | aaload => exact sQ_aaload hx hb hK hXs haQ hok hdg hR kk
  | aastore => exact sQ_aastore hx hb hK hXs haQ hok hdg hR kk
  | arraylength => exact sQ_arraylength hx hb hK hXs haQ hok hdg hR kk
  | _ => cases (show none = some (st', h') from haQ)
/-- what is left to the library: String constants, new int[n][m] (each a row of its own) -/
def aPrim (l : Launch) (D : va_G) (cA : Nat → ClassId) (base : Nat) (X : aX) : Prop :=
  ∀ {p : Program} {e : Env} {R : Room} {s : State} {m : MethodId} {args : Array Value} {below : List Frame} {meth : Method} {c : Code} {H : Heap} {locs : List Loc} {cells slots : Nat} {Q : State → Prop}
    {cc : ByteArray} {pc len b nL : Nat} {LS : Array Slot} {ad : Nat → Nat} {own : String} {ini : Bool} {spc : List Nat} {real : aI} {H0 : Heap} {h h' : aH} {ls st st' : List Value} {i : aI} {cal : Nat → List Value → aH → Option (Option Value × aH)},
    p.tables.exec = Jvm.exec → c.code = cc → c.maxLocals = nL → s.vm.findClass own = some m.cls → (∀ w ∈ aLT, w.before args s = true) → aNw s → va_K D vwCl (aTyL cA) s → aScr X base ad s H0 → base ≤ H0.size → 9 ≤ R.frames → 2000 ≤ R.locals →
    ((∃ k, i = .ldc k) ∧ aP i ls st = some (ls, st') ∧ h' = h ∨ (∃ k n, i = .multianewarray k n) ∧ aA i ls st h = some (st', h') ∨ (∃ k, i = .invokevirtual k ∧ (k % 1000 = 900 ∨ k % 1000 = 901)) ∧ aV cal i ls st h = some (st', h') ∨ (∃ k, i = .invokestatic k ∧ 904 ≤ k % 1000 ∧ k % 1000 < 909) ∧ aV cal i ls st h = some (st', h')) →
    aOk own ini spc b pc real len i = true → decode cc pc = .ok (real, len) → aRel D cA base H0 H locs ad h → lvR LS nL ad ls → cells + (h'.1 - h.1) ≤ R.cells → slots + (h'.2.1 - h.2.1) ≤ R.slots →
    (∀ ad' H' locs', aAgr h.1 h'.1 ad ad' → aRel D cA base H0 H' locs' ad' h' → lvR LS nL ad' ls → W p l e R s m args below meth c H' locs' (cells + (h'.1 - h.1)) (slots + (h'.2.1 - h.2.1)) Q (F0 m (pc + len) LS (st'.map (aCv ad')))) → W p l e R s m args below meth c H locs cells slots Q (F0 m pc LS (st.map (aCv ad)))
theorem aOver : ∀ C, (C = "TwoCamps$Law" ∨ C = "TwoCamps$Plan" ∨ C = "TwoCamps$Wood") → Cond.arrayOver (.object C) ∈ lw_tbl := by
  intro C h
  rcases h with rfl | rfl | rfl <;> decide +kernel
theorem aCopyW : Cond.native arraycopyName ∈ aLT ∧ Cond.static arraycopyName ∈ aLT ∧ Cond.initialized "java/lang/System" ∈ aLT := by decide +kernel
theorem aObjW : Cond.instanceMethod Lib.objectInit ∈ aLT ∧ Cond.code Lib.objectInit ⟨#[0xb1]⟩ 1 none ∈ aLT := by decide +kernel
theorem sim_V {cal : Nat → List Value → aH → Option (Option Value × aH)} (hprim : aPrim l D cA base X) (hx : p.tables.exec = Jvm.exec) (hb : c.code = cc) (hml : c.maxLocals = nL) (hown : s.vm.findClass own = some m.cls) (hts : ∀ w ∈ aLT, w.before args s = true) (hN : aNw s) (hK : va_K D vwCl (aTyL cA) s) (hXs : aScr X base ad s H0) (hbase : base ≤ H0.size)
    (hcal : aCal l D cA base X d cal) (hck : ∀ y, y + 1 < aIs.length → aCkWP y) (hfr : d + 9 ≤ R.frames) (hlo : 1000 * (d + 2) ≤ R.locals) {i : aI}
    (haV : aV cal i ls st h = some (st', h')) (hok : aOk own ini spc b pc real len i = true) (hdg : decode cc pc = .ok (real, len)) (hR : aRel D cA base H0 H locs ad h) (hL : lvR LS nL ad ls) (hcells : cells + (h'.1 - h.1) ≤ R.cells) (hslots : slots + (h'.2.1 - h.2.1) ≤ R.slots)
    (kk : ∀ ad' H' locs', aAgr h.1 h'.1 ad ad' → aRel D cA base H0 H' locs' ad' h' → lvR LS nL ad' ls → W p l e R s m args below meth c H' locs' (cells + (h'.1 - h.1)) (slots + (h'.2.1 - h.2.1)) Q (F0 m (pc + len) LS (st'.map (aCv ad')))) : W p l e R s m args below meth c H locs cells slots Q (F0 m pc LS (st.map (aCv ad))) := by
  cases i with
  | invokestatic k =>
    by_cases hk9 : 904 ≤ k % 1000 ∧ k % 1000 < 909
    · exact hprim hx hb hml hown hts hN hK hXs hbase (by omega) (by omega) (Or.inr (Or.inr (Or.inr ⟨⟨k, rfl, hk9⟩, haV⟩))) hok hdg hR hL hcells hslots kk
    have hok2 := hok
    simp only [aOk] at hok2
    split at hok2
    · rename_i idx
      simp only [Bool.and_eq_true, decide_eq_true_eq] at hok2
      obtain ⟨rfl, h2⟩ := hok2
      simp only [aV] at haV
      split at haV
      · rename_i hk
        rw [if_pos hk] at h2
        have e1 : h'.1 = h.1 ∧ h'.2.1 = h.2.1 := by
          unfold aCopy at haV
          split at haV
          · split at haV
            · cases haV; exact ⟨rfl, rfl⟩
            · cases haV
          · cases haV
        rw [e1.1, e1.2, Nat.sub_self, Nat.sub_self, Nat.add_zero, Nat.add_zero] at kk
        exact sV_copy hx hb hml hown hts hK (by omega) (by omega) haV (of_decide_eq_true h2) aCopyW.1 aCopyW.2.1 aCopyW.2.2 hdg hR hL (fun H' locs' hR' => kk ad H' locs' aAgr.rf hR' hL)
      · rename_i hk
        rw [if_neg hk, if_neg hk9] at h2
        simp only [Bool.and_eq_true, decide_eq_true_eq] at h2
        exact sV_static hx hb hml hown hts hN hK hXs hbase hcal hck hfr hlo haV h2.1 h2.2 hdg hR hL hcells hslots kk
    · cases hok2
  | invokespecial k =>
    have hok2 := hok
    simp only [aOk] at hok2
    split at hok2
    · rename_i idx
      simp only [Bool.and_eq_true, decide_eq_true_eq] at hok2
      obtain ⟨rfl, h2⟩ := hok2
      simp only [aV] at haV
      split at haV
      · rename_i hk
        rw [if_pos hk] at h2
        split at haV
        · rename_i a t
          split at haV
          · rename_i hc
            cases haV
            have k2 := kk ad H locs aAgr.rf hR hL
            rw [Nat.sub_self, Nat.sub_self, Nat.add_zero, Nat.add_zero] at k2
            refine W.objInit hx hb hown (hts _ (aUs (List.mem_of_getElem? (of_decide_eq_true h2)) rfl)) (hts _ aObjW.1) (hts _ aObjW.2) rfl (hL.1.trans hml.symm) rfl hdg (by omega) ?_ k2
            have h8 : ((st'.map (aCv ad)).map fun v => v.category).sum ≤ 8 := by rw [aCat_map]; exact hc.2
            show 2 * 0 + _ + 12 ≤ _
            omega
          · cases haV
        · cases haV
      · rename_i hk
        rw [if_neg hk] at h2
        simp only [Bool.and_eq_true, decide_eq_true_eq] at h2
        obtain ⟨⟨⟨⟨g1, g2⟩, g3⟩, g4⟩, g5⟩ := h2
        split at haV
        · rename_i a t hd
          split at haV
          · exact sV_init hx hb hml hown hts hN hK hXs hbase hcal hck hfr hlo hd haV g1 g2 g3 g4 g5 hdg hR hL hcells hslots kk
          · cases haV
        · cases haV
    · cases hok2
  | invokevirtual k =>
    by_cases hk : k % 1000 = 900 ∨ k % 1000 = 901
    · exact hprim hx hb hml hown hts hN hK hXs hbase (by omega) (by omega) (Or.inr (Or.inr (Or.inl ⟨⟨k, rfl, hk⟩, haV⟩))) hok hdg hR hL hcells hslots kk
    · have hok2 := hok
      simp only [aOk] at hok2
      split at hok2
      · rename_i idx
        simp only [Bool.and_eq_true, decide_eq_true_eq] at hok2
        obtain ⟨rfl, h2⟩ := hok2
        simp only [aV] at haV
        rw [if_neg (fun z => hk (Or.inl z)), if_neg (fun z => hk (Or.inr z))] at haV h2
        simp only [Bool.and_eq_true, decide_eq_true_eq] at h2
        obtain ⟨⟨⟨g1, g2⟩, g3⟩, g4⟩ := h2
        split at haV
        · rename_i a t hd
          split at haV
          · rename_i hc
            exact sV_inst hx hb hml hown hts hN hK hXs hbase hcal hck hfr hlo hd hc.1 hc.2 haV g1 g2 g3 g4 hdg hR hL hcells hslots kk
          · cases haV
        · cases haV
      · cases hok2
  | _ => cases (show none = some (st', h') from haV)
theorem sim_A (hprim : aPrim l D cA base X) (hx : p.tables.exec = Jvm.exec) (hb : c.code = cc) (hml : c.maxLocals = nL) (hown : s.vm.findClass own = some m.cls) (hts : ∀ w ∈ aLT, w.before args s = true) (hN : aNw s) (hK : va_K D vwCl (aTyL cA) s) (hXs : aScr X base ad s H0) (hbase : base ≤ H0.size) (hfr : 9 ≤ R.frames) (hlo : 2000 ≤ R.locals) {i : aI}
    (haA : aA i ls st h = some (st', h')) (hok : aOk own ini spc b pc real len i = true) (hdg : decode cc pc = .ok (real, len)) (hR : aRel D cA base H0 H locs ad h) (hL : lvR LS nL ad ls) (hcells : cells + (h'.1 - h.1) ≤ R.cells) (hslots : slots + (h'.2.1 - h.2.1) ≤ R.slots)
    (kk : ∀ ad' H' locs', aAgr h.1 h'.1 ad ad' → aRel D cA base H0 H' locs' ad' h' → lvR LS nL ad' ls → W p l e R s m args below meth c H' locs' (cells + (h'.1 - h.1)) (slots + (h'.2.1 - h.2.1)) Q (F0 m (pc + len) LS (st'.map (aCv ad')))) : W p l e R s m args below meth c H locs cells slots Q (F0 m pc LS (st.map (aCv ad))) := by
  cases i with
  | new k => exact sA_new hx hb hown hts hK hbase haA hok hdg hR hL hcells hslots kk
  | newarray t => exact sA_newarray hx hb hts hK hbase haA hok hdg hR hL hcells hslots kk
  | anewarray k => exact sA_anewarray hx hb hown hts hN hK hbase aOver haA hok hdg hR hL hcells hslots kk
  | multianewarray k n => exact hprim (cal := fun _ _ _ => none) hx hb hml hown hts hN hK hXs hbase hfr hlo (Or.inr (Or.inl ⟨⟨k, n, rfl⟩, haA⟩)) hok hdg hR hL hcells hslots kk
  | _ =>
    unfold aA at haA
    split at haA <;> cases haA
theorem sim_S {cal : Nat → List Value → aH → Option (Option Value × aH)} (hprim : aPrim l D cA base X) (hx : p.tables.exec = Jvm.exec) (hb : c.code = cc) (hml : c.maxLocals = nL) (hown : s.vm.findClass own = some m.cls) (hts : ∀ w ∈ aLT, w.before args s = true) (hini : ini = true → meth.name = "<init>") (hN : aNw s) (hK : va_K D vwCl (aTyL cA) s) (hXs : aScr X base ad s H0) (hbase : base ≤ H0.size)
    (hcal : aCal l D cA base X d cal) (hck : ∀ y, y + 1 < aIs.length → aCkWP y) (hfr : d + 9 ≤ R.frames) (hlo : 1000 * (d + 2) ≤ R.locals) {i : aI} (hi : aKd i ≠ 4)
    (haS : aS X cal i ls st h = some (ls', st', h')) (hok : aOk own ini spc b pc real len i = true) (hdg : decode cc pc = .ok (real, len)) (hR : aRel D cA base H0 H locs ad h) (hL : lvR LS nL ad ls) (hcells : cells + (h'.1 - h.1) ≤ R.cells) (hslots : slots + (h'.2.1 - h.2.1) ≤ R.slots)
    (kk : ∀ ad' LS' H' locs', aAgr h.1 h'.1 ad ad' → aRel D cA base H0 H' locs' ad' h' → lvR LS' nL ad' ls' → W p l e R s m args below meth c H' locs' (cells + (h'.1 - h.1)) (slots + (h'.2.1 - h.2.1)) Q (F0 m (pc + len) LS' (st'.map (aCv ad')))) : W p l e R s m args below meth c H locs cells slots Q (F0 m pc LS (st.map (aCv ad))) := by
  unfold aS at haS
  split at haS
  · obtain ⟨q, h1, e1⟩ := Option.map_eq_some_iff.mp haS
    cases e1
    by_cases hS : ∃ k, i = .ldc k
    · obtain ⟨k, rfl⟩ := hS
      have e2 : q.1 = ls := by
        simp only [aP] at h1
        cases h1
        rfl
      rw [e2] at kk
      exact hprim (i := .ldc k) (cal := fun _ _ _ => none) (st' := q.2) hx hb hml hown hts hN hK hXs hbase (by omega) (by omega) (Or.inl ⟨⟨k, rfl⟩, by rw [h1, ← e2], rfl⟩) hok hdg hR hL hcells hslots (fun ad' H' locs' => kk ad' LS H' locs')
    · rw [Nat.sub_self, Nat.sub_self, Nat.add_zero, Nat.add_zero] at kk
      exact sim_P hx hb hown hts (fun k hk => hS ⟨k, hk⟩) h1 hok hdg hL (fun LS' hL' => kk ad LS' H locs aAgr.rf hR hL')
  · obtain ⟨q, h1, e1⟩ := Option.map_eq_some_iff.mp haS
    cases e1
    obtain ⟨e2, e3, -⟩ := aQ_same h1
    rw [e2, e3, Nat.sub_self, Nat.sub_self, Nat.add_zero, Nat.add_zero] at kk
    exact sim_Q hx hb hown hts hini hK hXs h1 hok hdg hR (fun H' locs' hR' => kk ad LS H' locs' aAgr.rf hR' hL)
  · obtain ⟨q, h1, e1⟩ := Option.map_eq_some_iff.mp haS
    cases e1
    exact sim_A hprim hx hb hml hown hts hN hK hXs hbase (by omega) (by omega) h1 hok hdg hR hL hcells hslots (fun ad' H' locs' => kk ad' LS H' locs')
  · obtain ⟨q, h1, e1⟩ := Option.map_eq_some_iff.mp haS
    cases e1
    exact sim_V hprim hx hb hml hown hts hN hK hXs hbase hcal hck hfr hlo h1 hok hdg hR hL hcells hslots (fun ad' H' locs' => kk ad' LS H' locs')
end SIMS
