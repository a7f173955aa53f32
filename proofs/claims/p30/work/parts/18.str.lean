/-! the library's Strings, and Math.floorDiv, by contract -/
def aRk (k : Nat) : Room := { frames := k, cells := 0, slots := 0, locals := 100 * k }
def aQh (v : Option Value) : Array Value → State → Outcome → State → Prop := fun _ st o t => o = .returned v ∧ t.heap = st.heap
def aWl (y : MethodName) (bs : ByteArray) (ml : Nat) (ret : Option FieldType) : List Cond := .code y bs ml ret :: aGL
theorem aWl_good {y : MethodName} {bs : ByteArray} {ml : Nat} {ret : Option FieldType} (h : Cond.code y bs ml ret ∈ aGL) : GoodIn aGL (aWl y bs ml ret) := by
  intro w hw
  unfold aWl at hw
  rcases List.mem_cons.mp hw with rfl | hw
  · exact ⟨h, good_of_word (List.mem_filter.mp h).2⟩
  · exact ⟨hw, good_of_word (List.mem_filter.mp hw).2⟩
theorem aWl_hts {y : MethodName} {bs : ByteArray} {ml : Nat} {ret : Option FieldType} {s : State} {args : Array Value} (h : ∀ w ∈ aWl y bs ml ret, w.before args s = true) : ∀ w ∈ aGL, w.before args s = true := fun w hw => h w (List.mem_cons_of_mem _ hw)
section STRC
variable {p : Program} {l : Launch} {e : Env} {R : Room} {s : State} {m : MethodId} {args : Array Value} {below : List Frame} {meth : Method} {c : Code} {H : Heap} {locs : List Loc} {cells slots : Nat} {Q : State → Prop}
variable {cc : ByteArray} {pc nL : Nat} {LS : Array Slot} {own : String}
theorem aRunH {rest st0 : List Value} {v : Option Value} {a : Array Value} (hr : va_Run p l e R s m args below meth c H locs cells slots 0 0 (F0 m pc LS st0) rest (aQh v a) (fun _ => False))
    (kk : W p l e R s m args below meth c H locs cells slots Q (F0 m (pc + 3) LS (v.toList ++ rest))) : W p l e R s m args below meth c H locs cells slots Q (F0 m pc LS st0) := by
  intro T hT Xs
  obtain ⟨v', st₀, t, T', L, h0, X', hL, e1, e2, ⟨hv, hh⟩, st⟩ := hr T hT Xs
  cases hv
  have hL0 : L = [] := by
    cases L with
    | nil => rfl
    | cons q r => exact (hL q List.mem_cons_self).elim
  subst hL0
  rw [List.append_nil] at X'
  obtain ⟨t2, a1, b1⟩ := kk T' (by rw [e1, hh, h0]) X'
  exact ⟨t2, st t2 a1, b1⟩
theorem aCalV {y : MethodName} {bs : ByteArray} {ml n k a idx : Nat} {ret : Option FieldType} {P : State → Prop} {As rest : List Value} {v : Option Value} (hx : p.tables.exec = Jvm.exec) (hb : c.code = cc) (hml : c.maxLocals = nL) (hown : s.vm.findClass own = some m.cls) (hts : ∀ w ∈ aGL, w.before args s = true)
    (hM : Met l y (aWl y bs ml ret) (aRk k) (va_Pc (.ref a :: As) P) (aQh v) 0 0 (fun _ => False)) (hc : Cond.code y bs ml ret ∈ aGL) (hl : Cond.methodLink own idx y ∈ aGL) (hi : Cond.initialized y.cls ∈ aGL) (hin : Cond.instanceMethod y ∈ aGL) (hse : Cond.selects y.cls y y ∈ aGL)
    (hpar : y.cls ≠ "java/lang/invoke/MethodHandle" ∧ y.cls ≠ "java/lang/invoke/VarHandle" ∧ (parseMethodDescriptor y.desc).map (fun d => d.parameters.length) = some n) (hroom : (aRk k).frames + 1 ≤ R.frames ∧ 8 + (ml + 11) + (aRk k).locals ≤ R.locals) (hfb : FrameBlind (va_Pc (.ref a :: As) P))
    (hrec : ∃ cell : Cell, H[a]? = some cell ∧ cell.vm.isStatics = false ∧ s.vm.findClass y.cls = some cell.cls) (hP : ∀ U : State, U.heap = H → s.WarmedH U.vm → P U) (hn : As.length = n) (hsz : LS.size = nL) (h8 : (rest.map fun v => v.category).sum ≤ 8) (hdg : decode cc pc = .ok (.invokevirtual idx, 3)) (hcs : cells ≤ R.cells ∧ slots ≤ R.slots)
    (kk : W p l e R s m args below meth c H locs cells slots Q (F0 m (pc + 3) LS (v.toList ++ rest))) : W p l e R s m args below meth c H locs cells slots Q (F0 m pc LS (As.reverse ++ .ref a :: rest)) :=
  aRunH (va_runV (As := As) (b := a) (C := y.cls) (rest := rest) (nL := nL) ⟨hx, hb, hml, hown, hts⟩ hM ⟨callB_of n hts (aWl_good hc) rfl rfl rfl (hts _ hi) (hts _ hl) hpar hroom, hts _ hin, hts _ hse⟩ ⟨hfb, hrec, fun U h1 h2 => ⟨rfl, hP U h1 h2⟩⟩ rfl hn hsz rfl (lv_room h8) hdg hcs) kk
theorem aCalS {y : MethodName} {bs : ByteArray} {ml n k idx : Nat} {ret : Option FieldType} {P : State → Prop} {As rest : List Value} {v : Option Value} (hx : p.tables.exec = Jvm.exec) (hb : c.code = cc) (hml : c.maxLocals = nL) (hown : s.vm.findClass own = some m.cls) (hts : ∀ w ∈ aGL, w.before args s = true)
    (hM : Met l y (aWl y bs ml ret) (aRk k) (va_Pc As P) (aQh v) 0 0 (fun _ => False)) (hc : Cond.code y bs ml ret ∈ aGL) (hl : Cond.methodLink own idx y ∈ aGL) (hi : Cond.initialized y.cls ∈ aGL) (hst : Cond.static y ∈ aGL)
    (hpar : y.cls ≠ "java/lang/invoke/MethodHandle" ∧ y.cls ≠ "java/lang/invoke/VarHandle" ∧ (parseMethodDescriptor y.desc).map (fun d => d.parameters.length) = some n) (hroom : (aRk k).frames + 1 ≤ R.frames ∧ 8 + (ml + 11) + (aRk k).locals ≤ R.locals) (hfb : FrameBlind (va_Pc As P))
    (hP : ∀ U : State, U.heap = H → s.WarmedH U.vm → P U) (hn : As.length = n) (hsz : LS.size = nL) (h8 : (rest.map fun v => v.category).sum ≤ 8) (hdg : decode cc pc = .ok (.invokestatic idx, 3)) (hcs : cells ≤ R.cells ∧ slots ≤ R.slots)
    (kk : W p l e R s m args below meth c H locs cells slots Q (F0 m (pc + 3) LS (v.toList ++ rest))) : W p l e R s m args below meth c H locs cells slots Q (F0 m pc LS (As.reverse ++ rest)) :=
  aRunH (va_runS (As := As) (rest := rest) (nL := nL) ⟨hx, hb, hml, hown, hts⟩ hM ⟨callB_of n hts (aWl_good hc) rfl rfl rfl (hts _ hi) (hts _ hl) hpar hroom, hts _ hst⟩ ⟨hfb, fun U h1 h2 => ⟨rfl, hP U h1 h2⟩⟩ rfl hn hsz rfl (lv_room h8) hdg hcs) kk
end STRC
def aySt (n d : String) : MethodName := ⟨"java/lang/String", n, d⟩
def ayL1 : MethodName := ⟨"java/lang/StringLatin1", "charAt", "([BI)C"⟩
def ayPc : MethodName := ⟨"jdk/internal/util/Preconditions", "checkIndex", "(IILjava/util/function/BiFunction;)I"⟩
def ayFd : MethodName := ⟨"java/lang/Math", "floorDiv", "(II)I"⟩
/-- a String and the library's statics, at a method's entry -/
def aPS (A : Nat → Prop) (a : Nat) (tx : String) (U : State) : Prop := aStr1 a tx A U U.heap ∧ aLb A U U.heap
theorem aPS_blind {A : Nat → Prop} {a : Nat} {tx : String} {as : List Value} : FrameBlind (va_Pc as (aPS A a tx)) := fun b U g mk q => by
  obtain ⟨q0, q1, q2⟩ := q
  exact ⟨q0, aStr1.moved (u := U) (U := U.calling g mk b) (Vm.Alike.refl U.vm) q1, aLb.moved (u := U) (U := U.calling g mk b) (Vm.Alike.refl U.vm) q2⟩
theorem aPS.at {A : Nat → Prop} {a : Nat} {tx : String} {s U : State} {H0 H : Heap} {locs : List Loc} (h1 : aStr1 a tx A s H0) (h2 : aLb A s H0) (hS : va_S A H0 H locs) (hU : U.heap = H) (hW : s.WarmedH U.vm) : aPS A a tx U := by
  refine ⟨?_, ?_⟩
  · rw [hU]
    exact (h1.kept hS.2.1).moved hW.alike
  · rw [hU]
    exact (h2.kept hS.2.1).moved hW.alike
theorem aPc_met {l : Launch} {i n : Int32} {v : Value} (hv : v.category = 1) (h0 : 0 ≤ i) (h1 : i < n) : Met l ayPc (aWl ayPc prog_22_method_11_code 3 (some .int)) (aRk 1) (va_Pc [.int i, .int n, v] (fun _ => True)) (aQh (some (.int i))) 0 0 (fun _ => False) := by
  refine va_MetF (cc := prog_22_method_11_code) (maxL := 3) (ret := some .int) (by decide +kernel) rfl ?_
  intro p e s m args below meth c s₁ B hml hP
  obtain ⟨rfl, -⟩ := hP
  have hx := B.exec
  have hb := B.bytes
  have hr := B.returns
  have hlocks := B.notSynchronized
  rw [lg_entry_eq]
  have he : ((lg_sl [.int i, .int n, v] ++ List.replicate (3 - (lg_sl [.int i, .int n, v]).length) Slot.unset).toArray) = #[.val (.int i), .val (.int n), .val v] := by
    cases v <;> first | rfl | cases hv
  rw [he]
  refine lv_iload_n hx hb (k := 0) (i := 0) (x := i) (by decide +kernel) rfl rfl ?_
  refine lv_if_lt hx hb (off := 8) (tgt := 9) (by decide +kernel) (by decide) ?_ ?_
  · intro h
    exact absurd (Int32.not_lt.mpr h0) (by simpa using h)
  intro _
  refine lv_iload_n hx hb (k := 0) (i := 0) (x := i) (by decide +kernel) rfl rfl ?_
  refine lv_iload_n hx hb (k := 1) (i := 1) (x := n) (by decide +kernel) rfl rfl ?_
  refine lv_icmp_lt hx hb (off := 10) (tgt := 16) (by decide +kernel) (by decide) ?_ ?_
  · intro _
    refine lv_iload_n hx hb (k := 0) (i := 0) (x := i) (by decide +kernel) rfl rfl ?_
    exact W.iret hx hb hr (fun t ht _ => ⟨rfl, ht⟩) (fun q h => by cases h) (by decide +kernel)
  · intro h
    exact absurd h1 h

theorem aCk_met {l : Launch} {A : Nat → Prop} {a : Nat} {tx : String} {i n : Int32} (h0 : 0 ≤ i) (h1 : i < n) : Met l (aySt "checkIndex" "(II)V") (aWl (aySt "checkIndex" "(II)V") prog_17_method_155_code 2 none) (aRk 2) (va_Pc [.int i, .int n] (aPS A a tx)) (aQh none) 0 0 (fun _ => False) := by
  refine va_MetF (cc := prog_17_method_155_code) (maxL := 2) (ret := none) (by decide +kernel) rfl ?_
  intro p e s m args below meth c s₁ B hml hP
  obtain ⟨rfl, hP⟩ := hP
  have hx := B.exec
  have hb := B.bytes
  have hr := B.returns
  have hlocks := B.notSynchronized
  have hts := aWl_hts (atoms_spec (ws := aWl (aySt "checkIndex" "(II)V") prog_17_method_155_code 2 none) B.pre)
  have hown : s.vm.findClass "java/lang/String" = some m.cls := findClass_of_methodNamed B.named
  rw [lg_entry_eq]
  have he : ((lg_sl [.int i, .int n] ++ List.replicate (2 - (lg_sl [.int i, .int n]).length) Slot.unset).toArray) = #[.val (.int i), .val (.int n)] := rfl
  rw [he]
  have go : ∀ v : Value, v.category = 1 → W p l e (headSpec (aWl (aySt "checkIndex" "(II)V") prog_17_method_155_code 2 none) (aRk 2)).room s m (List.toArray [.int i, .int n]) below meth c s.heap [] 0 0 (MQ below (aQh none) (List.toArray [.int i, .int n]) s 0 0 (fun _ => False)) (F0 m 5 #[.val (.int i), .val (.int n)] [v, .int n, .int i]) := by
    intro v hv
    refine aCalS (cc := prog_17_method_155_code) (nL := 2) (own := "java/lang/String") (As := [.int i, .int n, v]) (rest := []) (v := some (.int i)) (k := 1) (n := 3) (idx := 1059) (P := fun _ => True) (l := l) (y := ayPc) (bs := prog_22_method_11_code) (ml := 3) (ret := some .int) hx hb hml hown hts (aPc_met hv h0 h1) (aGs (by decide +kernel) rfl) (aGs (by decide +kernel) rfl) (aGs (by decide +kernel) rfl) (aGs (by decide +kernel) rfl) (by decide +kernel) (by decide) (fun a U g mk q => ⟨q.1, trivial⟩) (fun _ _ _ => trivial) rfl rfl (by decide) (by decide +kernel) (by decide) ?_
    refine lv_pop hx hb (by decide +kernel) rfl ?_
    exact W.vret hx hb hr (fun t ht _ => ⟨rfl, ht⟩) (fun q h => by cases h) (by decide +kernel)
  refine lv_iload_n hx hb (k := 0) (i := 0) (x := i) (by decide +kernel) rfl rfl ?_
  refine lv_iload_n hx hb (k := 1) (i := 1) (x := n) (by decide +kernel) rfl rfl ?_
  rcases hP.2.2 with hz | ⟨t, hz⟩
  · exact va_gets hx hb (own := "java/lang/String") (ref := "jdk/internal/util/Preconditions") (index := 1053) hz va_S.rf hown (hts _ (aGs (by decide +kernel) rfl)) (fun x h => h) (by decide +kernel) (go .null rfl)
  · exact va_gets hx hb (own := "java/lang/String") (ref := "jdk/internal/util/Preconditions") (index := 1053) hz va_S.rf hown (hts _ (aGs (by decide +kernel) rfl)) (fun x h => h) (by decide +kernel) (go (.ref t) rfl)
theorem aCo_met {l : Launch} {A : Nat → Prop} {a : Nat} {tx : String} : Met l (aySt "coder" "()B") (aWl (aySt "coder" "()B") prog_17_method_152_code 1 (some .byte)) (aRk 1) (va_Pc [.ref a] (aPS A a tx)) (aQh (some (.int 0))) 0 0 (fun _ => False) := by
  refine va_MetF (cc := prog_17_method_152_code) (maxL := 1) (ret := some .byte) (by decide +kernel) rfl ?_
  intro p e s m args below meth c s₁ B hml hP
  obtain ⟨rfl, hP⟩ := hP
  have hx := B.exec
  have hb := B.bytes
  have hr := B.returns
  have hlocks := B.notSynchronized
  have hts := aWl_hts (atoms_spec (ws := aWl (aySt "coder" "()B") prog_17_method_152_code 1 (some .byte)) B.pre)
  have hown : s.vm.findClass "java/lang/String" = some m.cls := findClass_of_methodNamed B.named
  rw [lg_entry_eq]
  have he : ((lg_sl [.ref a] ++ List.replicate (1 - (lg_sl [.ref a]).length) Slot.unset).toArray) = #[.val (.ref a)] := rfl
  rw [he]
  refine va_gets hx hb (own := "java/lang/String") (ref := "java/lang/String") (index := 38) hP.2.1 va_S.rf hown (hts _ (aGs (by decide +kernel) rfl)) (fun x h => h) (by decide +kernel) ?_
  refine lv_if_eq hx hb (off := 10) (tgt := 13) (by decide +kernel) (by decide) (fun h => by cases h) (fun _ => ?_)
  refine lv_aload_n hx hb (k := 0) (i := 0) (x := a) (by decide +kernel) rfl rfl ?_
  refine vk_getf hx hb (own := "java/lang/String") (ref := "java/lang/String") (index := 15) hP.1.2.1 va_S.rf hown (hts _ (aGs (by decide +kernel) rfl)) (fun x h => h) (by decide +kernel) ?_
  refine lv_goto hx hb (off := 4) (tgt := 14) (by decide +kernel) (by decide) ?_
  exact W.zret hx hb hr rfl (fun t ht _ => ⟨rfl, ht⟩) (fun q h => by cases h) (by decide +kernel)
theorem aLa_met {l : Launch} {A : Nat → Prop} {a : Nat} {tx : String} : Met l (aySt "isLatin1" "()Z") (aWl (aySt "isLatin1" "()Z") prog_17_method_154_code 1 (some .boolean)) (aRk 1) (va_Pc [.ref a] (aPS A a tx)) (aQh (some (.int 1))) 0 0 (fun _ => False) := by
  refine va_MetF (cc := prog_17_method_154_code) (maxL := 1) (ret := some .boolean) (by decide +kernel) rfl ?_
  intro p e s m args below meth c s₁ B hml hP
  obtain ⟨rfl, hP⟩ := hP
  have hx := B.exec
  have hb := B.bytes
  have hr := B.returns
  have hlocks := B.notSynchronized
  have hts := aWl_hts (atoms_spec (ws := aWl (aySt "isLatin1" "()Z") prog_17_method_154_code 1 (some .boolean)) B.pre)
  have hown : s.vm.findClass "java/lang/String" = some m.cls := findClass_of_methodNamed B.named
  rw [lg_entry_eq]
  have he : ((lg_sl [.ref a] ++ List.replicate (1 - (lg_sl [.ref a]).length) Slot.unset).toArray) = #[.val (.ref a)] := rfl
  rw [he]
  refine va_gets hx hb (own := "java/lang/String") (ref := "java/lang/String") (index := 38) hP.2.1 va_S.rf hown (hts _ (aGs (by decide +kernel) rfl)) (fun x h => h) (by decide +kernel) ?_
  refine lv_if_eq hx hb (off := 14) (tgt := 17) (by decide +kernel) (by decide) (fun h => by cases h) (fun _ => ?_)
  refine lv_aload_n hx hb (k := 0) (i := 0) (x := a) (by decide +kernel) rfl rfl ?_
  refine vk_getf hx hb (own := "java/lang/String") (ref := "java/lang/String") (index := 15) hP.1.2.1 va_S.rf hown (hts _ (aGs (by decide +kernel) rfl)) (fun x h => h) (by decide +kernel) ?_
  refine lv_if_ne hx hb (off := 7) (tgt := 17) (by decide +kernel) (by decide) (fun h => absurd rfl h) (fun _ => ?_)
  refine lv_iconst hx hb (n := 1) (v := 1) (by decide +kernel) (by decide) ?_
  refine lv_goto hx hb (off := 4) (tgt := 18) (by decide +kernel) (by decide) ?_
  exact W.zret hx hb hr rfl (fun t ht _ => ⟨rfl, ht⟩) (fun q h => by cases h) (by decide +kernel)

/-- what a char of a String comes to -/
def aChOk (x : Int32) : Prop := x &&& 255 = x ∧ (x.toUInt32 % 65536).toInt32 = x ∧ narrow .char (.int x) = .int x
def aPL (A : Nat → Prop) (a v : Nat) (tx : String) (U : State) : Prop := aPS A a tx U ∧ va_T .byte v tx.length (fun j => .int (aChr tx j)) A U U.heap
theorem aL1_met {l : Launch} {A : Nat → Prop} {a v : Nat} {tx : String} {j : Int32} (h0 : 0 ≤ j) (h1 : j < Int32.ofNat tx.length) (hin : vp_in j tx.length) (hc : aChOk (aChr tx j.toNatClampNeg)) : Met l ayL1 (aWl ayL1 prog_18_method_2_code 2 (some .char)) (aRk 3) (va_Pc [.ref v, .int j] (aPL A a v tx)) (aQh (some (.int (aChr tx j.toNatClampNeg)))) 0 0 (fun _ => False) := by
  refine va_MetF (cc := prog_18_method_2_code) (maxL := 2) (ret := some .char) (by decide +kernel) rfl ?_
  intro p e s m args below meth c s₁ B hml hP
  obtain ⟨rfl, hP, hT⟩ := hP
  have hx := B.exec
  have hb := B.bytes
  have hr := B.returns
  have hlocks := B.notSynchronized
  have hts := aWl_hts (atoms_spec (ws := aWl ayL1 prog_18_method_2_code 2 (some .char)) B.pre)
  have hown : s.vm.findClass "java/lang/StringLatin1" = some m.cls := findClass_of_methodNamed B.named
  rw [lg_entry_eq]
  have he : ((lg_sl [.ref v, .int j] ++ List.replicate (2 - (lg_sl [.ref v, .int j]).length) Slot.unset).toArray) = #[.val (.ref v), .val (.int j)] := rfl
  rw [he]
  refine lv_iload_n hx hb (k := 1) (i := 1) (x := j) (by decide +kernel) rfl rfl ?_
  refine lv_aload_n hx hb (k := 0) (i := 0) (x := v) (by decide +kernel) rfl rfl ?_
  refine va_tlen hx hb hT va_S.rf rfl (by decide +kernel) ?_
  refine aCalS (cc := prog_18_method_2_code) (nL := 2) (own := "java/lang/StringLatin1") (As := [.int j, .int (Int32.ofNat tx.length)]) (rest := []) (v := none) (k := 2) (n := 2) (idx := 9) (P := aPS A a tx) (l := l) (y := aySt "checkIndex" "(II)V") (bs := prog_17_method_155_code) (ml := 2) (ret := none) hx hb hml hown hts (aCk_met h0 h1) (aGs (by decide +kernel) rfl) (aGs (by decide +kernel) rfl) (aGs (by decide +kernel) rfl) (aGs (by decide +kernel) rfl) (by decide +kernel) (by decide) aPS_blind (fun _ h1 h2 => aPS.at hP.1 hP.2 va_S.rf h1 h2) rfl rfl (by decide) (by decide +kernel) (by decide) ?_
  refine lv_aload_n hx hb (k := 0) (i := 0) (x := v) (by decide +kernel) rfl rfl ?_
  refine lv_iload_n hx hb (k := 1) (i := 1) (x := j) (by decide +kernel) rfl rfl ?_
  refine va_tb hx hb hT va_S.rf hin rfl (by decide +kernel) ?_
  refine lv_sipush hx hb (n := 255) (v := 255) (by decide +kernel) (by decide) ?_
  refine lv_iand hx hb (by decide +kernel) ?_
  have hi2 : ((aChr tx j.toNatClampNeg &&& 255).toUInt32 % 65536).toInt32 = aChr tx j.toNatClampNeg := by rw [hc.1]; exact hc.2.1
  refine lv_i2c hx hb (by decide +kernel) hi2 ?_
  exact W.zret hx hb hr hc.2.2 (fun t ht _ => ⟨rfl, ht⟩) (fun q h => by cases h) (by decide +kernel)
theorem aRecS {A : Nat → Prop} {a : Nat} {tx : String} {s : State} {H0 H : Heap} {locs : List Loc} (h1 : aStr1 a tx A s H0) (hS : va_S A H0 H locs) : ∃ cell : Cell, H[a]? = some cell ∧ cell.vm.isStatics = false ∧ s.vm.findClass "java/lang/String" = some cell.cls := by
  obtain ⟨cell, h1, h2, h3, -⟩ := h1.1.kept hS.2.1
  exact ⟨cell, h1, h2, h3⟩
theorem aPL_blind {A : Nat → Prop} {a v : Nat} {tx : String} {as : List Value} : FrameBlind (va_Pc as (aPL A a v tx)) := fun b U g mk q => by
  obtain ⟨q0, q1, q2⟩ := q
  exact ⟨q0, (aPS_blind (as := as) b U g mk ⟨q0, q1⟩).2, va_T.moved (u := U) (U := U.calling g mk b) (Vm.Alike.refl U.vm) q2⟩
theorem aLe_met {l : Launch} {A : Nat → Prop} {a : Nat} {tx : String} : Met l (aySt "length" "()I") (aWl (aySt "length" "()I") prog_17_method_54_code 1 (some .int)) (aRk 2) (va_Pc [.ref a] (aPS A a tx)) (aQh (some (.int (Int32.ofNat tx.length)))) 0 0 (fun _ => False) := by
  refine va_MetF (cc := prog_17_method_54_code) (maxL := 1) (ret := some .int) (by decide +kernel) rfl ?_
  intro p e s m args below meth c s₁ B hml hP
  obtain ⟨rfl, hP⟩ := hP
  have hx := B.exec
  have hb := B.bytes
  have hr := B.returns
  have hlocks := B.notSynchronized
  have hts := aWl_hts (atoms_spec (ws := aWl (aySt "length" "()I") prog_17_method_54_code 1 (some .int)) B.pre)
  have hown : s.vm.findClass "java/lang/String" = some m.cls := findClass_of_methodNamed B.named
  rw [lg_entry_eq]
  have he : ((lg_sl [.ref a] ++ List.replicate (1 - (lg_sl [.ref a]).length) Slot.unset).toArray) = #[.val (.ref a)] := rfl
  rw [he]
  obtain ⟨v, hv, hT⟩ := hP.1.2.2
  refine lv_aload_n hx hb (k := 0) (i := 0) (x := a) (by decide +kernel) rfl rfl ?_
  refine vk_getf hx hb (own := "java/lang/String") (ref := "java/lang/String") (index := 9) hv va_S.rf hown (hts _ (aGs (by decide +kernel) rfl)) (fun x h => h) (by decide +kernel) ?_
  refine va_tlen hx hb hT va_S.rf rfl (by decide +kernel) ?_
  refine lv_aload_n hx hb (k := 0) (i := 0) (x := a) (by decide +kernel) rfl rfl ?_
  refine aCalV (cc := prog_17_method_54_code) (nL := 1) (own := "java/lang/String") (As := []) (rest := [.int (Int32.ofNat tx.length)]) (v := some (.int 0)) (k := 1) (n := 0) (idx := 335) (P := aPS A a tx) (l := l) (y := aySt "coder" "()B") (bs := prog_17_method_152_code) (ml := 1) (ret := some .byte) hx hb hml hown hts aCo_met (aGs (by decide +kernel) rfl) (aGs (by decide +kernel) rfl) (aGs (by decide +kernel) rfl) (aGs (by decide +kernel) rfl) (aGs (by decide +kernel) rfl) (by decide +kernel) (by decide) aPS_blind (aRecS hP.1 va_S.rf) (fun _ h1 h2 => aPS.at hP.1 hP.2 va_S.rf h1 h2) rfl rfl (Nat.le_of_ble_eq_true rfl) (by decide +kernel) (by decide) ?_
  refine lv_ishr hx hb (by decide +kernel) ?_
  have hz : Int32.ofNat tx.length >>> ((0 : Int32) &&& 31) = Int32.ofNat tx.length := by simp
  rw [hz]
  exact W.iret hx hb hr (fun t ht _ => ⟨rfl, ht⟩) (fun q h => by cases h) (by decide +kernel)
theorem aCa_met {l : Launch} {A : Nat → Prop} {a : Nat} {tx : String} {j : Int32} (h0 : 0 ≤ j) (h1 : j < Int32.ofNat tx.length) (hin : vp_in j tx.length) (hc : aChOk (aChr tx j.toNatClampNeg)) : Met l (aySt "charAt" "(I)C") (aWl (aySt "charAt" "(I)C") prog_17_method_56_code 2 (some .char)) (aRk 4) (va_Pc [.ref a, .int j] (aPS A a tx)) (aQh (some (.int (aChr tx j.toNatClampNeg)))) 0 0 (fun _ => False) := by
  refine va_MetF (cc := prog_17_method_56_code) (maxL := 2) (ret := some .char) (by decide +kernel) rfl ?_
  intro p e s m args below meth c s₁ B hml hP
  obtain ⟨rfl, hP⟩ := hP
  have hx := B.exec
  have hb := B.bytes
  have hr := B.returns
  have hlocks := B.notSynchronized
  have hts := aWl_hts (atoms_spec (ws := aWl (aySt "charAt" "(I)C") prog_17_method_56_code 2 (some .char)) B.pre)
  have hown : s.vm.findClass "java/lang/String" = some m.cls := findClass_of_methodNamed B.named
  rw [lg_entry_eq]
  have he : ((lg_sl [.ref a, .int j] ++ List.replicate (2 - (lg_sl [.ref a, .int j]).length) Slot.unset).toArray) = #[.val (.ref a), .val (.int j)] := rfl
  rw [he]
  obtain ⟨v, hv, hT⟩ := hP.1.2.2
  refine lv_aload_n hx hb (k := 0) (i := 0) (x := a) (by decide +kernel) rfl rfl ?_
  refine aCalV (cc := prog_17_method_56_code) (nL := 2) (own := "java/lang/String") (As := []) (rest := []) (v := some (.int 1)) (k := 1) (n := 0) (idx := 492) (P := aPS A a tx) (l := l) (y := aySt "isLatin1" "()Z") (bs := prog_17_method_154_code) (ml := 1) (ret := some .boolean) hx hb hml hown hts aLa_met (aGs (by decide +kernel) rfl) (aGs (by decide +kernel) rfl) (aGs (by decide +kernel) rfl) (aGs (by decide +kernel) rfl) (aGs (by decide +kernel) rfl) (by decide +kernel) (by decide) aPS_blind (aRecS hP.1 va_S.rf) (fun _ h1 h2 => aPS.at hP.1 hP.2 va_S.rf h1 h2) rfl rfl (by decide) (by decide +kernel) (by decide) ?_
  refine lv_if_eq hx hb (off := 12) (tgt := 16) (by decide +kernel) (by decide) (fun h => by cases h) (fun _ => ?_)
  refine lv_aload_n hx hb (k := 0) (i := 0) (x := a) (by decide +kernel) rfl rfl ?_
  refine vk_getf hx hb (own := "java/lang/String") (ref := "java/lang/String") (index := 9) hv va_S.rf hown (hts _ (aGs (by decide +kernel) rfl)) (fun x h => h) (by decide +kernel) ?_
  refine lv_iload_n hx hb (k := 1) (i := 1) (x := j) (by decide +kernel) rfl rfl ?_
  refine aCalS (cc := prog_17_method_56_code) (nL := 2) (own := "java/lang/String") (As := [.ref v, .int j]) (rest := []) (v := some (.int (aChr tx j.toNatClampNeg))) (k := 3) (n := 2) (idx := 495) (P := aPL A a v tx) (l := l) (y := ayL1) (bs := prog_18_method_2_code) (ml := 2) (ret := some .char) hx hb hml hown hts (aL1_met h0 h1 hin hc) (aGs (by decide +kernel) rfl) (aGs (by decide +kernel) rfl) (aGs (by decide +kernel) rfl) (aGs (by decide +kernel) rfl) (by decide +kernel) (by decide) aPL_blind (fun U h1 h2 => ⟨aPS.at hP.1 hP.2 va_S.rf h1 h2, by rw [h1]; exact hT.moved h2.alike⟩) rfl rfl (by decide) (by decide +kernel) (by decide) ?_
  exact W.zret hx hb hr hc.2.2 (fun t ht _ => ⟨rfl, ht⟩) (fun q h => by cases h) (by decide +kernel)
/-- Math.floorDiv -/
def aFloor (x y : Int32) : Int32 := if (x ^^^ y) < 0 then if x / y * y = x then x / y else x / y - 1 else x / y
theorem aFd_met {l : Launch} {x y : Int32} (hy : ¬ y = 0) : Met l ayFd (aWl ayFd prog_16_method_47_code 3 (some .int)) (aRk 1) (va_Pc [.int x, .int y] (fun _ => True)) (aQh (some (.int (aFloor x y)))) 0 0 (fun _ => False) := by
  refine va_MetF (cc := prog_16_method_47_code) (maxL := 3) (ret := some .int) (by decide +kernel) rfl ?_
  intro p e s m args below meth c s₁ B hml hP
  obtain ⟨rfl, hP⟩ := hP
  have hx := B.exec
  have hb := B.bytes
  have hr := B.returns
  have hlocks := B.notSynchronized
  rw [lg_entry_eq]
  have h0 := lv_entry [.int x, .int y] (n := 3) (Nat.le_of_ble_eq_true rfl)
  have hL : lv_has ((lg_sl [.int x, .int y] ++ List.replicate (3 - (lg_sl [.int x, .int y]).length) Slot.unset).toArray) 3 [(0, .int x), (1, .int y)] := h0
  generalize ((lg_sl [.int x, .int y] ++ List.replicate (3 - (lg_sl [.int x, .int y]).length) Slot.unset).toArray) = LS at hL
  refine lv_iload_n hx hb (k := 0) (i := 0) (x := x) (by decide +kernel) rfl (lv_at hL 0 rfl) ?_
  refine lv_iload_n hx hb (k := 1) (i := 1) (x := y) (by decide +kernel) rfl (lv_at hL 1 rfl) ?_
  refine lv_idiv hx hb (by decide +kernel) hy ?_
  refine lv_istore_n hx hb (k := 2) (i := 2) (lv' := [(2, .int (x / y)), (0, .int x), (1, .int y)]) (by decide +kernel) rfl hL (by decide) rfl ?_
  intro LS2 hL2
  refine lv_iload_n hx hb (k := 0) (i := 0) (x := x) (by decide +kernel) rfl (lv_at hL2 1 rfl) ?_
  refine lv_iload_n hx hb (k := 1) (i := 1) (x := y) (by decide +kernel) rfl (lv_at hL2 2 rfl) ?_
  refine lv_ixor hx hb (by decide +kernel) ?_
  refine lv_if_ge hx hb (off := 14) (tgt := 21) (by decide +kernel) (by decide) (fun h => ?_) (fun h => ?_)
  · have ef : aFloor x y = x / y := if_neg (by simpa using h)
    refine lv_iload_n hx hb (k := 2) (i := 2) (x := x / y) (by decide +kernel) rfl (lv_at hL2 0 rfl) ?_
    rw [← ef]
    exact W.iret hx hb hr (fun t ht _ => ⟨rfl, ht⟩) (fun q h => by cases h) (by decide +kernel)
  · have hlt : (x ^^^ y) < 0 := by simpa using h
    refine lv_iload_n hx hb (k := 2) (i := 2) (x := x / y) (by decide +kernel) rfl (lv_at hL2 0 rfl) ?_
    refine lv_iload_n hx hb (k := 1) (i := 1) (x := y) (by decide +kernel) rfl (lv_at hL2 2 rfl) ?_
    refine lv_imul hx hb (by decide +kernel) ?_
    refine lv_iload_n hx hb (k := 0) (i := 0) (x := x) (by decide +kernel) rfl (lv_at hL2 1 rfl) ?_
    refine lv_icmp_eq hx hb (off := 7) (tgt := 21) (by decide +kernel) (by decide) (fun h => ?_) (fun h => ?_)
    · have ef : aFloor x y = x / y := by
        unfold aFloor
        rw [if_pos hlt, if_pos h]
      refine lv_iload_n hx hb (k := 2) (i := 2) (x := x / y) (by decide +kernel) rfl (lv_at hL2 0 rfl) ?_
      rw [← ef]
      exact W.iret hx hb hr (fun t ht _ => ⟨rfl, ht⟩) (fun q h => by cases h) (by decide +kernel)
    · have ef : aFloor x y = x / y - 1 := by
        unfold aFloor
        rw [if_pos hlt, if_neg h]
      refine lv_iload_n hx hb (k := 2) (i := 2) (x := x / y) (by decide +kernel) rfl (lv_at hL2 0 rfl) ?_
      refine lv_iconst hx hb (n := 1) (v := 1) (by decide +kernel) (by decide) ?_
      refine lv_isub hx hb (by decide +kernel) ?_
      rw [← ef]
      exact W.iret hx hb hr (fun t ht _ => ⟨rfl, ht⟩) (fun q h => by cases h) (by decide +kernel)
