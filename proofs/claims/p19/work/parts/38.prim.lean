/-! what is left to the library: String constants, their length and chars, java.lang.Math, rows of rows -/
def aChB (x : Int32) : Bool := decide (x &&& 255 = x) && decide ((x.toUInt32 % 65536).toInt32 = x) && decide (x.toUInt32.toUInt16.toUInt32.toInt32 = x)
theorem aChB_ok {x : Int32} (h : aChB x = true) : aChOk x := by
  unfold aChB at h
  simp only [Bool.and_eq_true, decide_eq_true_eq] at h
  exact ⟨h.1.1, h.1.2, congrArg Value.int h.2⟩
theorem aStr_ok : ∀ i, i < aStr.length → ((aStr.getD i "").length < 100 ∧ ∀ j, j < (aStr.getD i "").length → aChB (aChr (aStr.getD i "") j) = true) := by decide +kernel
theorem aInR_c {j : Int32} {n : Nat} (hn : n < 100) (h : aInR j n = true) : 0 ≤ j ∧ j < Int32.ofNat n ∧ vp_in j n ∧ j.toNatClampNeg < n := by
  have hv := aIn_in h
  have h1 : j.toNatClampNeg < n := Nat.not_le.mp fun q => hv (Or.inr q)
  unfold aInR at h
  obtain ⟨g1, g2⟩ := of_decide_eq_true h
  have hc : (Int32.ofNat n).toInt = n := Int32.toInt_ofNat_of_lt (by omega)
  refine ⟨?_, ?_, hv, h1⟩
  · rw [Int32.le_iff_toInt_le]
    exact g1
  · rw [Int32.lt_iff_toInt_lt, hc]
    exact g2
section PRIM
variable {p : Program} {l : Launch} {e : Env} {R : Room} {s : State} {m : MethodId} {args : Array Value} {below : List Frame} {meth : Method} {c : Code} {H : Heap} {locs : List Loc} {cells slots : Nat} {Q : State → Prop}
variable {cc : ByteArray} {pc len b base nL : Nat} {LS : Array Slot} {ad : Nat → Nat} {own : String} {ini : Bool} {spc : List Nat} {real : aI} {D : va_G} {cA : Nat → ClassId} {H0 : Heap} {X : aX} {h h' : aH} {ls st st' : List Value} {cal : Nat → List Value → aH → Option (Option Value × aH)}
theorem sX_str (hx : p.tables.exec = Jvm.exec) (hb : c.code = cc) (hml : c.maxLocals = nL) (hown : s.vm.findClass own = some m.cls) (hts : ∀ w ∈ aLT, w.before args s = true) (hXs : aScr X base ad s H0) (hfr : 9 ≤ R.frames) (hlo : 2000 ≤ R.locals) {k : Nat} (hk : k % 1000 = 900 ∨ k % 1000 = 901)
    (haV : aV cal (.invokevirtual k) ls st h = some (st', h')) (hok : aOk own ini spc b pc real len (.invokevirtual k) = true) (hdg : decode cc pc = .ok (real, len)) (hR : aRel D cA base H0 H locs ad h) (hL : lvR LS nL ad ls) (hcells : cells + (h'.1 - h.1) ≤ R.cells) (hslots : slots + (h'.2.1 - h.2.1) ≤ R.slots)
    (kk : ∀ ad' H' locs', aAgr h.1 h'.1 ad ad' → aRel D cA base H0 H' locs' ad' h' → lvR LS nL ad' ls → W p l e R s m args below meth c H' locs' (cells + (h'.1 - h.1)) (slots + (h'.2.1 - h.2.1)) Q (F0 m (pc + len) LS (st'.map (aCv ad')))) : W p l e R s m args below meth c H locs cells slots Q (F0 m pc LS (st.map (aCv ad))) := by
  have hts2 : ∀ w ∈ aGL, w.before args s = true := fun w hw => hts w (aGL_LT hw)
  obtain ⟨hS1, -, hLb, -⟩ := hXs.2.2.2
  simp only [aOk] at hok
  split at hok
  · rename_i idx
    simp only [Bool.and_eq_true, decide_eq_true_eq] at hok
    obtain ⟨rfl, hw⟩ := hok
    rcases hk with hk | hk
    · simp only [aV, if_pos hk] at haV
      rw [if_pos hk] at hw
      have hw := of_decide_eq_true hw
      split at haV
      · rename_i a t
        split at haV
        · rename_i ha
          cases haV
          obtain ⟨a1, a2, a3⟩ := ha
          have a1 : (90001 : Nat) ≤ (a : Nat) := a1
          obtain ⟨i, rfl⟩ : ∃ i : Nat, a = 90001 + i := ⟨a - 90001, (Nat.add_sub_cancel' a1).symm⟩
          have hi : i < aStr.length := Nat.lt_of_add_lt_add_left a2
          rw [Nat.sub_self, Nat.sub_self, Nat.add_zero, Nat.add_zero] at kk
          rw [Nat.sub_self, Nat.add_zero] at hcells hslots
          have k2 := kk ad H locs aAgr.rf hR hL
          rw [Nat.add_sub_cancel_left] at k2
          have h8 : ((t.map (aCv ad)).map fun v => v.category).sum ≤ 8 := by rw [aCat_map]; exact a3
          exact aCalV (cc := cc) (nL := nL) (own := own) (As := []) (rest := t.map (aCv ad)) (a := ad (90001 + i)) (v := some (.int (Int32.ofNat (aStr.getD i "").length))) (k := 2) (n := 0) (idx := idx) (P := aPS (fun q => base ≤ q) (ad (90001 + i)) (aStr.getD i "")) (l := l) (y := aySt "length" "()I") (bs := prog_17_method_54_code) (ml := 1) (ret := some .int) hx hb hml hown hts2 aLe_met (aGs (by decide +kernel) rfl) (aGs (List.mem_of_getElem? hw) rfl) (aGs (by decide +kernel) rfl) (aGs (by decide +kernel) rfl) (aGs (by decide +kernel) rfl) (by decide +kernel) (by unfold aRk; dsimp only; omega) aPS_blind (aRecS (hS1 i hi) hR.2.2.1) (fun _ h1 h2 => aPS.at (hS1 i hi) hLb hR.2.2.1 h1 h2) rfl hL.1 h8 hdg ⟨hcells, hslots⟩ k2
        · cases haV
      · cases haV
    · have hk0 : ¬ k % 1000 = 900 := by omega
      simp only [aV, if_neg hk0, if_pos hk] at haV
      rw [if_neg hk0, if_pos hk] at hw
      have hw := of_decide_eq_true hw
      split at haV
      · rename_i j a t
        split at haV
        · rename_i ha
          cases haV
          obtain ⟨a1, a2, hin, hc8⟩ := ha
          have a1 : (90001 : Nat) ≤ (a : Nat) := a1
          obtain ⟨i, rfl⟩ : ∃ i : Nat, a = 90001 + i := ⟨a - 90001, (Nat.add_sub_cancel' a1).symm⟩
          have hi : i < aStr.length := Nat.lt_of_add_lt_add_left a2
          rw [Nat.add_sub_cancel_left] at hin
          rw [Nat.sub_self, Nat.sub_self, Nat.add_zero, Nat.add_zero] at kk
          rw [Nat.sub_self, Nat.add_zero] at hcells hslots
          have k2 := kk ad H locs aAgr.rf hR hL
          rw [Nat.add_sub_cancel_left] at k2
          have h8 : ((t.map (aCv ad)).map fun v => v.category).sum ≤ 8 := by rw [aCat_map]; exact hc8
          obtain ⟨o1, o2⟩ := aStr_ok i hi
          obtain ⟨j1, j2, j3, j4⟩ := aInR_c o1 hin
          exact aCalV (cc := cc) (nL := nL) (own := own) (As := [.int j]) (rest := t.map (aCv ad)) (a := ad (90001 + i)) (v := some (.int (aChr (aStr.getD i "") j.toNatClampNeg))) (k := 4) (n := 1) (idx := idx) (P := aPS (fun q => base ≤ q) (ad (90001 + i)) (aStr.getD i "")) (l := l) (y := aySt "charAt" "(I)C") (bs := prog_17_method_56_code) (ml := 2) (ret := some .char) hx hb hml hown hts2 (aCa_met j1 j2 j3 (aChB_ok (o2 _ j4))) (aGs (by decide +kernel) rfl) (aGs (List.mem_of_getElem? hw) rfl) (aGs (by decide +kernel) rfl) (aGs (by decide +kernel) rfl) (aGs (by decide +kernel) rfl) (by decide +kernel) (by unfold aRk; dsimp only; omega) aPS_blind (aRecS (hS1 i hi) hR.2.2.1) (fun _ h1 h2 => aPS.at (hS1 i hi) hLb hR.2.2.1 h1 h2) rfl hL.1 h8 hdg ⟨hcells, hslots⟩ k2
        · cases haV
      · cases haV
  · cases hok
theorem sX_math (hx : p.tables.exec = Jvm.exec) (hb : c.code = cc) (hml : c.maxLocals = nL) (hown : s.vm.findClass own = some m.cls) (hts : ∀ w ∈ aLT, w.before args s = true) (hfr : 9 ≤ R.frames) (hlo : 2000 ≤ R.locals) {k : Nat} (hk : 904 ≤ k % 1000 ∧ k % 1000 < 909)
    (haV : aV cal (.invokestatic k) ls st h = some (st', h')) (hok : aOk own ini spc b pc real len (.invokestatic k) = true) (hdg : decode cc pc = .ok (real, len)) (hR : aRel D cA base H0 H locs ad h) (hL : lvR LS nL ad ls) (hcells : cells + (h'.1 - h.1) ≤ R.cells) (hslots : slots + (h'.2.1 - h.2.1) ≤ R.slots)
    (kk : ∀ ad' H' locs', aAgr h.1 h'.1 ad ad' → aRel D cA base H0 H' locs' ad' h' → lvR LS nL ad' ls → W p l e R s m args below meth c H' locs' (cells + (h'.1 - h.1)) (slots + (h'.2.1 - h.2.1)) Q (F0 m (pc + len) LS (st'.map (aCv ad')))) : W p l e R s m args below meth c H locs cells slots Q (F0 m pc LS (st.map (aCv ad))) := by
  have hts2 : ∀ w ∈ aGL, w.before args s = true := fun w hw => hts w (aGL_LT hw)
  have hsz : c.maxLocals = LS.size := hml.trans hL.1.symm
  simp only [aOk] at hok
  split at hok
  · rename_i idx
    simp only [Bool.and_eq_true, decide_eq_true_eq] at hok
    obtain ⟨rfl, hw⟩ := hok
    rw [if_neg (by omega), if_pos hk] at hw
    have hw := of_decide_eq_true hw
    simp only [aV] at haV
    rw [if_neg (by omega), if_pos hk] at haV
    unfold aMath at haV
    split at haV
    · rename_i x t hkk
      split at haV
      · rename_i h8
        cases haV
        rw [hkk] at hw
        rw [Nat.sub_self, Nat.sub_self, Nat.add_zero, Nat.add_zero] at kk
        rw [Nat.sub_self, Nat.add_zero] at hcells hslots
        have k2 := kk ad H locs aAgr.rf hR hL
        have h9 : ((t.map (aCv ad)).map fun v => v.category).sum ≤ 8 := by rw [aCat_map]; exact h8
        exact va_mabs hx hb hsz hown (hts _ (aUs (List.mem_of_getElem? hw) rfl)) (hts _ (aUs (by decide +kernel) rfl)) (hts _ (aUs (by decide +kernel) rfl)) (hts _ (aUs (by decide +kernel) rfl)) (by omega) (by omega) hcells hslots hdg k2
      · cases haV
    · rename_i y x t hkk
      split at haV
      · rename_i h8
        cases haV
        rw [hkk] at hw
        rw [Nat.sub_self, Nat.sub_self, Nat.add_zero, Nat.add_zero] at kk
        rw [Nat.sub_self, Nat.add_zero] at hcells hslots
        have k2 := kk ad H locs aAgr.rf hR hL
        have h9 : ((t.map (aCv ad)).map fun v => v.category).sum ≤ 8 := by rw [aCat_map]; exact h8.2
        exact aCalS (cc := cc) (nL := nL) (own := own) (As := [.int x, .int y]) (rest := t.map (aCv ad)) (v := some (.int (aFloor x y))) (k := 1) (n := 2) (idx := idx) (P := fun _ => True) (l := l) (y := ayFd) (bs := prog_16_method_47_code) (ml := 3) (ret := some .int) hx hb hml hown hts2 (aFd_met h8.1) (aGs (by decide +kernel) rfl) (aGs (List.mem_of_getElem? hw) rfl) (aGs (by decide +kernel) rfl) (aGs (by decide +kernel) rfl) (by decide +kernel) (by unfold aRk; dsimp only; omega) (fun a U g mk q => ⟨q.1, trivial⟩) (fun _ _ _ => trivial) rfl hL.1 h9 hdg ⟨hcells, hslots⟩ k2
      · cases haV
    · rename_i y x t hkk
      split at haV
      · rename_i h8
        cases haV
        rw [hkk] at hw
        rw [Nat.sub_self, Nat.sub_self, Nat.add_zero, Nat.add_zero] at kk
        rw [Nat.sub_self, Nat.add_zero] at hcells hslots
        have k2 := kk ad H locs aAgr.rf hR hL
        have h9 : ((t.map (aCv ad)).map fun v => v.category).sum ≤ 8 := by rw [aCat_map]; exact h8
        exact va_mmax_long hx hb hsz hown (hts _ (aUs (List.mem_of_getElem? hw) rfl)) (hts _ (aUs (by decide +kernel) rfl)) (hts _ (aUs (by decide +kernel) rfl)) (hts _ (aUs (by decide +kernel) rfl)) (by omega) (by omega) hcells hslots hdg k2
      · cases haV
    · rename_i y x t hkk
      split at haV
      · rename_i h8
        cases haV
        rw [hkk] at hw
        rw [Nat.sub_self, Nat.sub_self, Nat.add_zero, Nat.add_zero] at kk
        rw [Nat.sub_self, Nat.add_zero] at hcells hslots
        have k2 := kk ad H locs aAgr.rf hR hL
        have h9 : ((t.map (aCv ad)).map fun v => v.category).sum ≤ 8 := by rw [aCat_map]; exact h8
        exact va_mmin hx hb hsz hown (hts _ (aUs (List.mem_of_getElem? hw) rfl)) (hts _ (aUs (by decide +kernel) rfl)) (hts _ (aUs (by decide +kernel) rfl)) (hts _ (aUs (by decide +kernel) rfl)) (by omega) (by omega) hcells hslots hdg k2
      · cases haV
    · rename_i y x t hkk
      split at haV
      · rename_i h8
        cases haV
        rw [hkk] at hw
        rw [Nat.sub_self, Nat.sub_self, Nat.add_zero, Nat.add_zero] at kk
        rw [Nat.sub_self, Nat.add_zero] at hcells hslots
        have k2 := kk ad H locs aAgr.rf hR hL
        have h9 : ((t.map (aCv ad)).map fun v => v.category).sum ≤ 8 := by rw [aCat_map]; exact h8
        exact va_mmin_long hx hb hsz hown (hts _ (aUs (List.mem_of_getElem? hw) rfl)) (hts _ (aUs (by decide +kernel) rfl)) (hts _ (aUs (by decide +kernel) rfl)) (hts _ (aUs (by decide +kernel) rfl)) (by omega) (by omega) hcells hslots hdg k2
      · cases haV
    · cases haV
  · cases hok
end PRIM
