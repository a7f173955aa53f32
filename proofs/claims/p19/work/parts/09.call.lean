/-! calls -/
theorem aGoodIn {L : List Cond} (h : ∀ w ∈ L, w ∈ aGL) : GoodIn aLT L := fun w hw => ⟨aGL_LT (h w hw), good_of_word (List.mem_filter.mp (h w hw)).2⟩
def aWs1 (y : Nat) : List Cond := .code (aIn y).1 (aIn y).2.1 (aML y) (aIn y).2.2.2.1 :: aGL
def aRm (d mc ms : Nat) : Room := { frames := d + 8, cells := mc, slots := ms, locals := 1000 * (d + 1) }
/-- the words that are carried from state to state: those of nest mates, of arrays of objects -/
def aNw (U : State) : Prop := (∀ w ∈ lw_tbl, aNst w = true → va_Nw w U) ∧ (∀ C, Cond.arrayOver (.object C) ∈ lw_tbl → va_AO C U)
theorem aNw.warm {s U : State} (hW : s.WarmedH U.vm) (h : aNw s) : aNw U := by
  refine ⟨fun w hw hn => ?_, fun C hC => (h.2 C hC).moved hW.alike⟩
  have h1 := h.1 w hw hn
  cases w <;> first | exact va_Nw.warmF hW h1 | exact va_Nw.warmM hW h1 | cases hn
theorem aNw.same {u U : State} (hv : u.vm = U.vm) (h : aNw u) : aNw U := by
  refine ⟨fun w hw hn => ?_, fun C hC => (h.2 C hC).moved (by rw [hv]; exact Vm.Alike.refl _)⟩
  have h1 := h.1 w hw hn
  cases w <;> first | exact va_Nw.same rfl hv h1 | cases hn
def aPre (D : va_G) (cA : Nat → ClassId) (base : Nat) (X : aX) (ad : Nat → Nat) (h : aH) : State → Prop := fun U => base ≤ U.heap.size ∧ va_K D vwCl (aTyL cA) U ∧ va_P D vwCl (aW cA ad h) U.heap ∧ va_D (fun q => base ≤ q) (aW cA ad h) ∧ aScr X base ad U U.heap ∧ aNw U
def aAgr (n n' : Nat) (ad ad' : Nat → Nat) : Prop := ∀ k, ¬ (n ≤ k ∧ k < n' ∧ k < 90000) → ad' k = ad k
def aPost (D : va_G) (cA : Nat → ClassId) (base : Nat) (ad : Nat → Nat) (h : aH) (rv : Option Value) (h' : aH) : Array Value → State → Outcome → State → Prop := fun _ st o t =>
  ∃ ad', aAgr h.1 h'.1 ad ad' ∧ o = .returned (rv.map (aCv ad')) ∧ va_P D vwCl (aW cA ad' h') t.heap ∧ va_D (fun q => base ≤ q) (aW cA ad' h') ∧ va_F (fun q => base ≤ q) st t
def aMet (l : Launch) (D : va_G) (cA : Nat → ClassId) (base : Nat) (X : aX) (d y : Nat) (as : List Value) (h : aH) (rv : Option Value) (h' : aH) : Prop :=
  ∀ ad, Met l (aIn y).1 (aWs1 y) (aRm d (h'.1 - h.1) (h'.2.1 - h.2.1)) (va_Pc (as.map (aCv ad)) (aPre D cA base X ad h)) (aPost D cA base ad h rv h') (h'.1 - h.1) (h'.2.1 - h.2.1) (fun q => base ≤ q)
theorem aScr.moved {X : aX} {base : Nat} {ad : Nat → Nat} {s U : State} {H0 H : Heap} {locs : List Loc} (hS : va_S (fun q => base ≤ q) H0 H locs) (hW : s.WarmedH U.vm) (h : aScr X base ad s H0) : aScr X base ad U H :=
  ⟨(h.1.kept (hS.2.1 _ h.2.1 h.2.2.1)).moved hW.alike, Nat.lt_of_lt_of_le h.2.1 hS.1, h.2.2.1, h.2.2.2.warm hW hS.2.1⟩
theorem aScr.same {X : aX} {base : Nat} {ad : Nat → Nat} {s U : State} {H : Heap} (hv : U.vm = s.vm) (h : aScr X base ad s H) : aScr X base ad U H := ⟨h.1.moved (by rw [hv]; exact Vm.Alike.refl _), h.2.1, h.2.2.1, h.2.2.2.same hv⟩
theorem aPre_blind {D : va_G} {cA : Nat → ClassId} {base : Nat} {X : aX} {ad : Nat → Nat} {h : aH} {as : List Value} : FrameBlind (va_Pc as (aPre D cA base X ad h)) := fun a U g mk q => by
  obtain ⟨q0, q1, q2, q3, q4, q5, q6⟩ := q
  exact ⟨q0, q1, va_K.moved (u := U) (U := U.calling g mk a) (Vm.Alike.refl U.vm) q2, q3, q4, aScr.same (s := U) (U := U.calling g mk a) rfl q5, aNw.same (u := U) (U := U.calling g mk a) rfl q6⟩
theorem aAgr.rf {n : Nat} {ad : Nat → Nat} : aAgr n n ad ad := fun _ _ => rfl
theorem aAgr.eq {n : Nat} {ad ad' : Nat → Nat} (h : aAgr n n ad ad') : ad' = ad := funext fun k => h k (by omega)
theorem aAgr.trans {n n1 n2 : Nat} {ad ad1 ad2 : Nat → Nat} (h1 : aAgr n n1 ad ad1) (h2 : aAgr n1 n2 ad1 ad2) (l1 : n ≤ n1) (l2 : n1 ≤ n2) : aAgr n n2 ad ad2 := fun k hk => (h2 k (by omega)).trans (h1 k (by omega))
theorem aOkv_cv {n n' : Nat} {ad ad' : Nat → Nat} {v : Value} (h : aAgr n n' ad ad') (hv : aOkv n v = true) : aCv ad' v = aCv ad v := by
  cases v <;> try rfl
  rename_i r
  have hr : r < n ∨ 90000 ≤ r := of_decide_eq_true hv
  show Value.ref (ad' r) = Value.ref (ad r)
  rw [h r (fun q => hr.elim (fun z => Nat.not_lt.mpr q.1 z) (fun z => Nat.not_lt.mpr z q.2.2))]
theorem aOkv_all {n n' : Nat} {ad ad' : Nat → Nat} {vs : List Value} (h : aAgr n n' ad ad') (hv : n' = n ∨ vs.all (aOkv n) = true) : ∀ v ∈ vs, aCv ad' v = aCv ad v := by
  intro v hm
  rcases hv with e | hv
  · subst e
    rw [h.eq]
  · exact aOkv_cv h (List.all_eq_true.mp hv v hm)
/-- what the words say of a method -/
theorem aCkW_spec {y : Nat} (hp : aCkWP y) : Cond.code (aIn y).1 (aIn y).2.1 (aML y) (aIn y).2.2.2.1 ∈ aGL ∧ (aCI y = 100 → Cond.static (aIn y).1 ∈ aGL) ∧ (aCI y ≠ 100 → Cond.instanceMethod (aIn y).1 ∈ aGL ∧ aCI y < 13 ∧ aCn (aCI y) = (aIn y).1.cls ∧ ((aIn y).1.name = "<init>" ∨ Cond.selects (aIn y).1.cls (aIn y).1 (aIn y).1 ∈ aGL)) ∧ Cond.initialized (aIn y).1.cls ∈ aGL ∧ plainName (aIn y).1.cls = true ∧ ((aIn y).1.cls ≠ "java/lang/invoke/MethodHandle" ∧ (aIn y).1.cls ≠ "java/lang/invoke/VarHandle") ∧ (parseMethodDescriptor (aIn y).1.desc).map (fun d => d.parameters.length) = some (aNA y) ∧ aRtOk (aRT y) (aIn y).2.2.2.1 = true ∧ aML y ≤ 200 := by
  obtain ⟨h, h1⟩ := hp
  unfold aCkW at h
  split at h
  · simp only [Bool.and_eq_true, decide_eq_true_eq] at h
    obtain ⟨⟨⟨⟨⟨⟨h2, h3⟩, h4⟩, h5⟩, h6⟩, h7⟩, h8⟩ := h
    refine ⟨aGs h1 rfl, fun q => ?_, fun q => ?_, aGs (List.mem_of_getElem? h3) rfl, h4, h5, h6, h7, h8⟩
    · rw [if_pos q] at h2
      exact aGs (List.mem_of_getElem? (of_decide_eq_true h2)) rfl
    · rw [if_neg q] at h2
      simp only [Bool.and_eq_true, Bool.or_eq_true, decide_eq_true_eq] at h2
      obtain ⟨⟨⟨g1, g2⟩, g3⟩, g4⟩ := h2
      exact ⟨aGs (List.mem_of_getElem? g1) rfl, g2, g3, g4.imp id (fun z => aGs (List.mem_of_getElem? z) rfl)⟩
  · cases h
section SIMV
variable {p : Program} {l : Launch} {e : Env} {R : Room} {s : State} {m : MethodId} {args : Array Value} {below : List Frame} {meth : Method} {c : Code} {H : Heap} {locs : List Loc} {cells slots : Nat} {Q : State → Prop}
variable {cc : ByteArray} {pc len b base d nL : Nat} {LS : Array Slot} {ad : Nat → Nat} {own : String} {ini : Bool} {spc : List Nat} {real : aI} {D : va_G} {cA : Nat → ClassId} {H0 : Heap} {X : aX} {h h' : aH} {ls st st' : List Value}
theorem aRun_k {rest' st0 : List Value} {rv : Option Value} {a : Array Value} {mc ms : Nat} (hr : va_Run p l e R s m args below meth c H locs cells slots mc ms (F0 m pc LS st0) rest' (aPost D cA base ad h rv h' a) (fun q => base ≤ q)) (hR : aRel D cA base H0 H locs ad h) (hwf : aWfh h')
    (kk : ∀ ad' H' locs', aAgr h.1 h'.1 ad ad' → aRel D cA base H0 H' locs' ad' h' → W p l e R s m args below meth c H' locs' (cells + mc) (slots + ms) Q (F0 m (pc + 3) LS ((rv.map (aCv ad')).toList ++ rest'))) : W p l e R s m args below meth c H locs cells slots Q (F0 m pc LS st0) := by
  intro T hT Xs
  obtain ⟨v, st₀, t, T', L, h0, X', hL, e1, e2, ⟨ad', hag, hv, hP', hD', hF⟩, st⟩ := hr T hT Xs
  cases hv
  obtain ⟨hz, hk⟩ := hF
  rw [h0] at hz hk
  obtain ⟨-, -, hS, -⟩ := hR
  obtain ⟨t2, a1, b1⟩ := kk ad' T'.heap (locs ++ L) hag ⟨by rw [e1]; exact hP', hD', ⟨Nat.le_trans hS.1 (by rw [e1]; exact hz), fun q h1 h2 => by
      rw [e1, hk q (Nat.lt_of_lt_of_le h1 hS.1) h2]
      exact hS.2.1 q h1 h2, fun q hq => by
      rcases List.mem_append.mp hq with h9 | h9
      · exact hS.2.2 q h9
      · exact hL q h9⟩, hwf⟩ T' rfl X'
  exact ⟨t2, st t2 a1, b1⟩
/-- what a callee's words, room and start come to -/
theorem aGo_pre (hN : aNw s) (hK : va_K D vwCl (aTyL cA) s) (hXs : aScr X base ad s H0) (hR : aRel D cA base H0 H locs ad h) (hbase : base ≤ H0.size) {as : List Value} :
    FrameBlind (va_Pc (as.map (aCv ad)) (aPre D cA base X ad h)) ∧ ∀ U : State, U.heap = H → s.WarmedH U.vm → va_Pc (as.map (aCv ad)) (aPre D cA base X ad h) (as.map (aCv ad)).toArray U := by
  refine ⟨aPre_blind, fun U hU hW => ⟨rfl, ?_, va_K.moved hW.alike hK, by rw [hU]; exact hR.1, hR.2.1, by rw [hU]; exact hXs.moved hR.2.2.1 hW, hN.warm hW⟩⟩
  rw [hU]
  exact Nat.le_trans hbase hR.2.2.1.1
theorem aRecv (hK : va_K D vwCl (aTyL cA) s) (hR : aRel D cA base H0 H locs ad h) {a : Nat} (ha : a < h.1) {ci : Nat} (hc : (h.2.2.1 a).1 = ci) (hci : ci < 13) : ∃ cell : Cell, H[ad a]? = some cell ∧ cell.vm.isStatics = false ∧ s.vm.findClass (aCn ci) = some cell.cls := by
  obtain ⟨q, hq⟩ := aCls_all hci
  have he := aW_at (cA := cA) (ad := ad) ha
  rw [show aEl cA ad h a = _ from aElF_obj hc (by omega)] at he
  have := va_recv hK hR.1 hq he
  rw [show aCn ci = q.1 by unfold aCn; rw [hq]]
  exact this
/-- of each callee that the tables have -/
def aCal (l : Launch) (D : va_G) (cA : Nat → ClassId) (base : Nat) (X : aX) (d : Nat) (cal : Nat → List Value → aH → Option (Option Value × aH)) : Prop :=
  ∀ y as h rv h', y + 1 < aIs.length → aWfh h → cal y as h = some (rv, h') → aMet l D cA base X d y as h rv h' ∧ h.1 ≤ h'.1 ∧ h.2.1 ≤ h'.2.1 ∧ aWfh h'
theorem aWm1_spec {idx : Nat} {y : MethodName} {w : Option Cond} (h : aWm1 own idx y w = true) : w = some (.methodLink own idx y) ∨ ∃ host, w = some (.methodLinkNest own idx y host) := by
  unfold aWm1 at h
  split at h
  · simp only [Bool.and_eq_true, decide_eq_true_eq] at h
    obtain ⟨⟨rfl, rfl⟩, rfl⟩ := h
    exact Or.inl rfl
  · simp only [Bool.and_eq_true, decide_eq_true_eq] at h
    obtain ⟨⟨rfl, rfl⟩, rfl⟩ := h
    exact Or.inr ⟨_, rfl⟩
  · cases h
theorem aRoom_ok {y mc ms : Nat} (hml : aML y ≤ 200) (hfr : d + 9 ≤ R.frames) (hlo : 1000 * (d + 2) ≤ R.locals) : (aRm d mc ms).frames + 1 ≤ R.frames ∧ 8 + (aML y + 11) + (aRm d mc ms).locals ≤ R.locals := by
  unfold aRm
  dsimp only
  omega
theorem aGo_spec {cal : Nat → List Value → aH → Option (Option Value × aH)} {y : Nat} {as rest : List Value} (hg : aGo cal y as rest ls h = some (st', h')) : (rest.map fun v => v.category).sum ≤ 8 ∧ ∃ rv, cal y as h = some (rv, h') ∧ st' = rv.toList ++ rest ∧ (h'.1 = h.1 ∨ (ls ++ rest).all (aOkv h.1) = true) := by
  unfold aGo at hg
  split at hg
  · rename_i h8
    split at hg
    · rename_i rv h2 hc
      split at hg
      · rename_i ho
        cases hg
        exact ⟨h8, rv, hc, rfl, ho⟩
      · cases hg
    · cases hg
  · cases hg
theorem aCat_map (ad : Nat → Nat) (t : List Value) : ((t.map (aCv ad)).map fun v => v.category).sum = (t.map fun v => v.category).sum := by
  rw [List.map_map]
  congr 1
  apply List.map_congr_left
  intro v _
  exact aCv_cat ad v
/-- behind any call -/
theorem aCall_k {rest : List Value} {rv : Option Value} {st0 : List Value} {a : Array Value} (hr : va_Run p l e R s m args below meth c H locs cells slots (h'.1 - h.1) (h'.2.1 - h.2.1) (F0 m pc LS st0) (rest.map (aCv ad)) (aPost D cA base ad h rv h' a) (fun q => base ≤ q)) (hR : aRel D cA base H0 H locs ad h) (hwf : aWfh h') (ho : h'.1 = h.1 ∨ (ls ++ rest).all (aOkv h.1) = true) (hL : lvR LS nL ad ls)
    (kk : ∀ ad' H' locs', aAgr h.1 h'.1 ad ad' → aRel D cA base H0 H' locs' ad' h' → lvR LS nL ad' ls → W p l e R s m args below meth c H' locs' (cells + (h'.1 - h.1)) (slots + (h'.2.1 - h.2.1)) Q (F0 m (pc + 3) LS ((rv.toList ++ rest).map (aCv ad')))) : W p l e R s m args below meth c H locs cells slots Q (F0 m pc LS st0) := by
  refine aRun_k hr hR hwf (fun ad' H' locs' hag hR' => ?_)
  have hall := aOkv_all (vs := ls ++ rest) hag ho
  have k2 := kk ad' H' locs' hag hR' (hL.ad (fun v hv => hall v (List.mem_append_left _ hv)))
  have e1 : rest.map (aCv ad) = rest.map (aCv ad') := List.map_congr_left (fun v hv => (hall v (List.mem_append_right _ hv)).symm)
  have e2 : (rv.toList ++ rest).map (aCv ad') = (rv.map (aCv ad')).toList ++ rest.map (aCv ad') := by
    rw [List.map_append]
    cases rv <;> rfl
  rw [e1, ← e2]
  exact k2
end SIMV
