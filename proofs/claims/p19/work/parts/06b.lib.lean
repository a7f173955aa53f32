/-! what holds of the library all along: String constants, statics, the array class of rows -/
def aStr1 (a : Nat) (tx : String) (A : Nat → Prop) (U : State) (H : Heap) : Prop := va_O "java/lang/String" a A U H ∧ va_OF "java/lang/String" "coder" "B" (.int 0) a A U H ∧ ∃ v : Nat, va_OF "java/lang/String" "value" "[B" (.ref v) a A U H ∧ va_T .byte v tx.length (fun j => .int (aChr tx j)) A U H
def aLb (A : Nat → Prop) (U : State) (H : Heap) : Prop := va_Z "java/lang/String" "COMPACT_STRINGS" "Z" (.int 1) A U H ∧ va_Zq "jdk/internal/util/Preconditions" "SIOOBE_FORMATTER" "Ljava/util/function/BiFunction;" A U H
theorem aStr1.moved {a : Nat} {tx : String} {A : Nat → Prop} {u U : State} {H : Heap} (hvm : u.vm.Alike U.vm) (h : aStr1 a tx A u H) : aStr1 a tx A U H := by
  obtain ⟨h1, h2, v, h3, h4⟩ := h
  exact ⟨h1.moved hvm, h2.moved hvm, v, h3.moved hvm, h4.moved hvm⟩
theorem aStr1.kept {a : Nat} {tx : String} {A : Nat → Prop} {U : State} {H H1 : Heap} (h : aStr1 a tx A U H) (hq : ∀ a : Nat, a < H.size → ¬ A a → H1[a]? = H[a]?) : aStr1 a tx A U H1 := by
  obtain ⟨h1, h2, v, h3, h4⟩ := h
  exact ⟨h1.kept hq, h2.kept hq, v, h3.kept hq, h4.kept hq⟩
theorem aLb.moved {A : Nat → Prop} {u U : State} {H : Heap} (hvm : u.vm.Alike U.vm) (h : aLb A u H) : aLb A U H := ⟨h.1.moved hvm, h.2.moved hvm⟩
theorem aLb.kept {A : Nat → Prop} {U : State} {H H1 : Heap} (h : aLb A U H) (hq : ∀ a : Nat, a < H.size → ¬ A a → H1[a]? = H[a]?) : aLb A U H1 := ⟨h.1.kept hq, h.2.kept hq⟩
def va_AOA (ty : FieldType) (U : State) : Prop := (Cond.arrayOver (.array ty)).before #[] U = true
theorem va_AOA.use {ty : FieldType} {A : Array Value} {U : State} (h : va_AOA ty U) : (Cond.arrayOver (.array ty)).before A U = true := h
theorem va_AOA.moved {ty : FieldType} {u U : State} (hvm : u.vm.Alike U.vm) (h : va_AOA ty u) : va_AOA ty U := over_moved (a := #[]) (a' := #[]) hvm h
/-- the String constants lie at ad's places, the pool's entries name them; the statics -/
def aLib (base : Nat) (ad : Nat → Nat) (s : State) (H : Heap) : Prop := (∀ i, i < aStr.length → aStr1 (ad (90001 + i)) (aStr.getD i "") (fun q => base ≤ q) s H) ∧ (∀ own idx i, i < aStr.length → Cond.stringRef own idx (aStr.getD i "") ∈ lw_tbl → vk_R own idx (aStr.getD i "") (ad (90001 + i)) s) ∧ aLb (fun q => base ≤ q) s H ∧ va_AOA .int s
theorem aLib.ad {base : Nat} {ad ad' : Nat → Nat} {s : State} {H : Heap} (hg : ∀ i, ad' (90001 + i) = ad (90001 + i)) (h : aLib base ad s H) : aLib base ad' s H := by
  obtain ⟨h1, h2, h3⟩ := h
  refine ⟨fun i hi => ?_, fun own idx i hi hm => ?_, h3⟩
  · rw [hg]
    exact h1 i hi
  · rw [hg]
    exact h2 own idx i hi hm
theorem aLib.same {base : Nat} {ad : Nat → Nat} {u U : State} {H : Heap} (hv : U.vm = u.vm) (h : aLib base ad u H) : aLib base ad U H := by
  have hal : u.vm.Alike U.vm := by rw [hv]; exact Vm.Alike.refl _
  exact ⟨fun i hi => (h.1 i hi).moved hal, fun own idx i hi hm => vk_R.same hv (h.2.1 own idx i hi hm), h.2.2.1.moved hal, h.2.2.2.moved hal⟩
theorem aLib.warm {base : Nat} {ad : Nat → Nat} {s U : State} {H H1 : Heap} (hW : s.WarmedH U.vm) (hq : ∀ a : Nat, a < H.size → ¬ base ≤ a → H1[a]? = H[a]?) (h : aLib base ad s H) : aLib base ad U H1 :=
  ⟨fun i hi => ((h.1 i hi).kept hq).moved hW.alike, fun own idx i hi hm => vk_R.warm hW (h.2.1 own idx i hi hm), (h.2.2.1.kept hq).moved hW.alike, h.2.2.2.moved hW.alike⟩
