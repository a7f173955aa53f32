/-! an instruction, read off a few bytes that are copied out -/
abbrev dR (α : Type) : Type := Jvm.ClassFile.Decoder α
def dLoc (C W : ByteArray) (a : Nat) {α : Type} (d e : dR α) : Prop := ∀ p x q, d W p = .ok (x, q) → e C (a + p) = .ok (x, a + q)
def dWin (C W : ByteArray) (a : Nat) : Prop := ∀ p (h : p < W.size), ∃ h2 : a + p < C.size, C[a + p]'h2 = W[p]'h
theorem dl_u1k (B : ByteArray) (s : Nat) (hs : s < B.size) : (Jvm.ClassFile.Reader.u1 : dR Nat) B s = .ok ((B[s]'hs).toNat, s + 1) := by
  show (dite (s < B.size) (fun h => (do set (s + 1); pure (B[s]'h).toNat : dR Nat)) (fun _ => throw (Jvm.ClassFile.HasTruncated.truncated s)) : dR Nat) B s = _
  rw [dif_pos hs]
  rfl
theorem dl_u1n (B : ByteArray) (s : Nat) (hs : ¬ s < B.size) : (Jvm.ClassFile.Reader.u1 : dR Nat) B s = .error (Jvm.ClassFile.HasTruncated.truncated s) := by
  show (dite (s < B.size) (fun h => (do set (s + 1); pure (B[s]'h).toNat : dR Nat)) (fun _ => throw (Jvm.ClassFile.HasTruncated.truncated s)) : dR Nat) B s = _
  rw [dif_neg hs]
  rfl
section DM
variable {C W : ByteArray} {a : Nat} {α β : Type}
theorem dl_pure {x : α} : dLoc C W a (pure x) (pure x) := fun p y q h => by
  have h : (Except.ok (x, p) : Except Jvm.ClassFile.DecodeError (α × Nat)) = .ok (y, q) := h
  cases h
  rfl
theorem dl_bind {d e : dR α} {f g : α → dR β} (h1 : dLoc C W a d e) (h2 : ∀ x, dLoc C W a (f x) (g x)) : dLoc C W a (d >>= f) (e >>= g) := fun p y q h => by
  have h : Except.bind (d W p) (fun z => f z.1 W z.2) = .ok (y, q) := h
  show Except.bind (e C (a + p)) (fun z => g z.1 C z.2) = .ok (y, a + q)
  cases hd : d W p with
  | error er =>
    rw [hd] at h
    cases h
  | ok z =>
    rw [hd] at h
    rw [h1 p z.1 z.2 hd]
    exact h2 z.1 z.2 y q h
theorem dl_map {d e : dR α} {f : α → β} (h1 : dLoc C W a d e) : dLoc C W a (f <$> d) (f <$> e) := fun p y q h => by
  have h : Except.bind (d W p) (fun z => Except.ok (f z.1, z.2)) = .ok (y, q) := h
  show Except.bind (e C (a + p)) (fun z => Except.ok (f z.1, z.2)) = .ok (y, a + q)
  cases hd : d W p with
  | error er =>
    rw [hd] at h
    cases h
  | ok z =>
    rw [hd] at h
    rw [h1 p z.1 z.2 hd]
    have h : (Except.ok (f z.1, z.2) : Except Jvm.ClassFile.DecodeError (β × Nat)) = .ok (y, q) := h
    cases h
    rfl
theorem dl_u1 (hW : dWin C W a) : dLoc C W a (Jvm.ClassFile.Reader.u1 : dR Nat) Jvm.ClassFile.Reader.u1 := fun p y q h => by
  by_cases c : p < W.size
  · obtain ⟨h2, e⟩ := hW p c
    rw [dl_u1k W p c] at h
    cases h
    rw [dl_u1k C (a + p) h2, e]
    rfl
  · rw [dl_u1n W p c] at h
    cases h
theorem dl_u2 (hW : dWin C W a) : dLoc C W a (Jvm.ClassFile.Reader.u2 : dR Nat) Jvm.ClassFile.Reader.u2 := dl_bind (dl_u1 hW) fun _ => dl_bind (dl_u1 hW) fun _ => dl_pure
theorem dl_s1 (hW : dWin C W a) : dLoc C W a (Jvm.ClassFile.Reader.s1 : dR Int) Jvm.ClassFile.Reader.s1 := dl_map (dl_u1 hW)
theorem dl_s2 (hW : dWin C W a) : dLoc C W a (Jvm.ClassFile.Reader.s2 : dR Int) Jvm.ClassFile.Reader.s2 := dl_map (dl_u2 hW)
def dL_0 : List Nat := [1, 2, 3, 4, 5, 6, 7, 8, 9, 10, 26, 27, 28, 29, 30, 31, 32, 33, 42, 43, 44, 45, 46, 50, 51, 59, 60, 61, 62, 63, 64, 65, 66, 75, 76, 77, 78, 79, 83, 84, 87, 89, 90, 92, 96, 97, 100, 101, 104, 105, 108, 109, 112, 116, 120, 121, 122, 124, 126, 127, 128, 130, 133, 136, 148, 172, 173, 176, 177, 190]
def dL_1 : List Nat := [18, 21, 22, 25, 54, 55, 58]
def dL_2 : List Nat := [16]
def dL_3 : List Nat := [19, 20, 180, 181, 182, 183, 184, 187, 189]
def dL_4 : List Nat := [17, 153, 154, 155, 156, 157, 158, 159, 160, 161, 162, 163, 164, 167]
def dL_5 : List Nat := [132]
/-- what stands behind the first byte -/
noncomputable def dFF (pc : Nat) : {F : Nat → dR Jvm.ClassFile.Instr // Jvm.ClassFile.Decoder.instr pc = Jvm.ClassFile.Reader.u1 >>= F} := ⟨_, rfl⟩
theorem dk_0 (hW : dWin C W a) (c c2 : Nat) : ∀ k ∈ dL_0, dLoc C W a ((dFF c).1 k) ((dFF c2).1 k) := by
  intro k hk
  simp only [dL_0, List.mem_cons, List.not_mem_nil, or_false] at hk
  rcases hk with rfl | rfl | rfl | rfl | rfl | rfl | rfl | rfl | rfl | rfl | rfl | rfl | rfl | rfl | rfl | rfl | rfl | rfl | rfl | rfl | rfl | rfl | rfl | rfl | rfl | rfl | rfl | rfl | rfl | rfl | rfl | rfl | rfl | rfl | rfl | rfl | rfl | rfl | rfl | rfl | rfl | rfl | rfl | rfl | rfl | rfl | rfl | rfl | rfl | rfl | rfl | rfl | rfl | rfl | rfl | rfl | rfl | rfl | rfl | rfl | rfl | rfl | rfl | rfl | rfl | rfl | rfl | rfl | rfl | rfl
  all_goals exact dl_pure
theorem dk_1 (hW : dWin C W a) (c c2 : Nat) : ∀ k ∈ dL_1, dLoc C W a ((dFF c).1 k) ((dFF c2).1 k) := by
  intro k hk
  simp only [dL_1, List.mem_cons, List.not_mem_nil, or_false] at hk
  rcases hk with rfl | rfl | rfl | rfl | rfl | rfl | rfl
  all_goals exact dl_bind (dl_u1 hW) fun _ => dl_pure
theorem dk_2 (hW : dWin C W a) (c c2 : Nat) : ∀ k ∈ dL_2, dLoc C W a ((dFF c).1 k) ((dFF c2).1 k) := by
  intro k hk
  simp only [dL_2, List.mem_cons, List.not_mem_nil, or_false] at hk
  subst hk
  all_goals exact dl_bind (dl_s1 hW) fun _ => dl_pure
theorem dk_3 (hW : dWin C W a) (c c2 : Nat) : ∀ k ∈ dL_3, dLoc C W a ((dFF c).1 k) ((dFF c2).1 k) := by
  intro k hk
  simp only [dL_3, List.mem_cons, List.not_mem_nil, or_false] at hk
  rcases hk with rfl | rfl | rfl | rfl | rfl | rfl | rfl | rfl | rfl
  all_goals exact dl_bind (dl_u2 hW) fun _ => dl_pure
theorem dk_4 (hW : dWin C W a) (c c2 : Nat) : ∀ k ∈ dL_4, dLoc C W a ((dFF c).1 k) ((dFF c2).1 k) := by
  intro k hk
  simp only [dL_4, List.mem_cons, List.not_mem_nil, or_false] at hk
  rcases hk with rfl | rfl | rfl | rfl | rfl | rfl | rfl | rfl | rfl | rfl | rfl | rfl | rfl | rfl
  all_goals exact dl_bind (dl_s2 hW) fun _ => dl_pure
theorem dk_5 (hW : dWin C W a) (c c2 : Nat) : ∀ k ∈ dL_5, dLoc C W a ((dFF c).1 k) ((dFF c2).1 k) := by
  intro k hk
  simp only [dL_5, List.mem_cons, List.not_mem_nil, or_false] at hk
  subst hk
  all_goals exact dl_bind (dl_u1 hW) fun _ => dl_bind (dl_s1 hW) fun _ => dl_pure
end DM
def dMask : Nat := 0x69f3309ffe100135d71133331698f807fccc7c03fe7f07fe
theorem dMask_ck : ((List.range 256).all fun k => !Nat.testBit dMask k || (dL_0.elem k || (dL_1.elem k || (dL_2.elem k || (dL_3.elem k || (dL_4.elem k || dL_5.elem k)))))) = true := by decide +kernel
theorem dMask_ok (k : Nat) (hk : k < 256) (hm : Nat.testBit dMask k = true) : k ∈ dL_0 ∨ k ∈ dL_1 ∨ k ∈ dL_2 ∨ k ∈ dL_3 ∨ k ∈ dL_4 ∨ k ∈ dL_5 := by
  have q := List.all_eq_true.mp dMask_ck k (List.mem_range.mpr hk)
  rw [hm, Bool.not_true, Bool.false_or] at q
  simp only [Bool.or_eq_true] at q
  rcases q with q | q | q | q | q | q
  · exact Or.inl (List.mem_of_elem_eq_true q)
  · exact Or.inr (Or.inl (List.mem_of_elem_eq_true q))
  · exact Or.inr (Or.inr (Or.inl (List.mem_of_elem_eq_true q)))
  · exact Or.inr (Or.inr (Or.inr (Or.inl (List.mem_of_elem_eq_true q))))
  · exact Or.inr (Or.inr (Or.inr (Or.inr (Or.inl (List.mem_of_elem_eq_true q)))))
  · exact Or.inr (Or.inr (Or.inr (Or.inr (Or.inr (List.mem_of_elem_eq_true q)))))
theorem dk_all {C W : ByteArray} {a : Nat} (hW : dWin C W a) (c c2 : Nat) {k : Nat} (hk : k < 256) (hm : Nat.testBit dMask k = true) : dLoc C W a ((dFF c).1 k) ((dFF c2).1 k) := by
  rcases dMask_ok k hk hm with h | h | h | h | h | h
  · exact dk_0 hW c c2 k h
  · exact dk_1 hW c c2 k h
  · exact dk_2 hW c c2 k h
  · exact dk_3 hW c c2 k h
  · exact dk_4 hW c c2 k h
  · exact dk_5 hW c c2 k h
/-- the few bytes that stand at a place -/
def dB (w : List UInt8) : ByteArray := ⟨⟨w.take 6⟩⟩
theorem dB_win {C : ByteArray} {pc : Nat} {w : List UInt8} (hw : C.data.toList.drop pc = w) : dWin C (dB w) pc := fun p h => by
  subst hw
  have h1 : p < ((C.data.toList.drop pc).take 6).length := h
  have h2 : pc + p < C.data.toList.length := by
    rw [List.length_take, List.length_drop] at h1
    omega
  refine ⟨h2, ?_⟩
  show C.data.toList[pc + p]'h2 = ((C.data.toList.drop pc).take 6)[p]'h1
  rw [List.getElem_take, List.getElem_drop]
def dHd : List UInt8 → Bool
  | b :: _ => Nat.testBit dMask b.toNat
  | [] => false
theorem d_loc {C : ByteArray} {pc : Nat} {w : List UInt8} (hw : C.data.toList.drop pc = w) (hd : dHd w = true) {i : Jvm.ClassFile.Instr} {len : Nat} (h : decode (dB w) 0 = .ok (i, len)) : decode C pc = .ok (i, len) := by
  have hW := dB_win hw
  cases w with
  | nil => cases hd
  | cons b t =>
    have hm : Nat.testBit dMask b.toNat = true := hd
    have k256 : b.toNat < 256 := b.toNat_lt
    have z0 : 0 < (dB (b :: t)).size := by
      show 0 < ((b :: t).take 6).length
      rw [List.length_take, List.length_cons]
      omega
    obtain ⟨h2, e2⟩ := hW 0 z0
    have eb : (dB (b :: t))[0]'z0 = b := rfl
    have h : Except.bind ((Jvm.ClassFile.Decoder.instr 0 : dR _) (dB (b :: t)) 0) (fun z => Except.ok (z.1, z.2 - 0)) = .ok (i, len) := h
    rw [(dFF 0).2] at h
    have h : Except.bind (Except.bind ((Jvm.ClassFile.Reader.u1 : dR Nat) (dB (b :: t)) 0) (fun z => (dFF 0).1 z.1 (dB (b :: t)) z.2)) (fun z => Except.ok (z.1, z.2 - 0)) = .ok (i, len) := h
    rw [dl_u1k _ 0 z0, eb] at h
    have h : Except.bind ((dFF 0).1 b.toNat (dB (b :: t)) 1) (fun z => Except.ok (z.1, z.2 - 0)) = .ok (i, len) := h
    cases hF : (dFF 0).1 b.toNat (dB (b :: t)) 1 with
    | error er =>
      rw [hF] at h
      cases h
    | ok z =>
      rw [hF] at h
      have l := dk_all hW 0 pc k256 hm 1 z.1 z.2 hF
      have h : (Except.ok (z.1, z.2 - 0) : Except Jvm.ClassFile.DecodeError (Jvm.ClassFile.Instr × Nat)) = .ok (i, len) := h
      cases h
      show Except.bind ((Jvm.ClassFile.Decoder.instr pc : dR _) C pc) (fun z => Except.ok (z.1, z.2 - pc)) = _
      rw [(dFF pc).2]
      show Except.bind (Except.bind ((Jvm.ClassFile.Reader.u1 : dR Nat) C pc) (fun z => (dFF pc).1 z.1 C z.2)) (fun z => Except.ok (z.1, z.2 - pc)) = _
      have h3 : pc < C.size := h2
      have e3 : C[pc]'h3 = b := e2.trans eb
      rw [dl_u1k C pc h3, e3]
      show Except.bind ((dFF pc).1 b.toNat C (pc + 1)) (fun z => Except.ok (z.1, z.2 - pc)) = _
      rw [l]
      show (Except.ok (z.1, pc + z.2 - pc) : Except Jvm.ClassFile.DecodeError (Jvm.ClassFile.Instr × Nat)) = .ok (z.1, z.2 - 0)
      rw [Nat.add_sub_cancel_left, Nat.sub_zero]
/-! the checks of blocks, by that -/
def dDec (cc : ByteArray) (pc : Nat) (w : List UInt8) : Except Jvm.ClassFile.DecodeError (Jvm.ClassFile.Instr × Nat) := bif dHd w then decode (dB w) 0 else decode cc pc
theorem dDec_s {cc : ByteArray} {pc : Nat} {w : List UInt8} (hw : cc.data.toList.drop pc = w) {z : Jvm.ClassFile.Instr × Nat} (h : dDec cc pc w = .ok z) : decode cc pc = .ok z := by
  unfold dDec at h
  cases hd : dHd w with
  | true =>
    rw [hd] at h
    exact d_loc hw hd h
  | false =>
    rw [hd] at h
    exact h
def aCkF (own : String) (ini : Bool) (cc : ByteArray) (spc : List Nat) (b : Nat) : Nat → List UInt8 → List aI → Bool
  | pc, _, [] => decide (spc[b + 1]? = some pc)
  | pc, w, i :: r => match dDec cc pc w with
    | .ok (real, len) => aOk own ini spc b pc real len i && (if aKd i = 4 then r.isEmpty else aCkF own ini cc spc b (pc + len) (w.drop len) r)
    | .error _ => false
theorem aCkF_s {own : String} {ini : Bool} {cc : ByteArray} {spc : List Nat} {b : Nat} : ∀ {r : List aI} {pc : Nat} {w : List UInt8}, cc.data.toList.drop pc = w → aCkF own ini cc spc b pc w r = true → aCk own ini cc spc b pc r = true := by
  intro r
  induction r with
  | nil => intro pc w _ h; exact h
  | cons i r ih =>
    intro pc w hw h
    unfold aCkF at h
    unfold aCk
    cases hd : dDec cc pc w with
    | error e =>
      rw [hd] at h
      cases h
    | ok z =>
      rw [dDec_s hw hd]
      rw [hd] at h
      obtain ⟨real, len⟩ := z
      dsimp only at h ⊢
      rw [Bool.and_eq_true] at h ⊢
      refine ⟨h.1, ?_⟩
      have h2 := h.2
      by_cases k : aKd i = 4
      · rw [if_pos k] at h2 ⊢
        exact h2
      · rw [if_neg k] at h2 ⊢
        exact ih (by rw [← hw, List.drop_drop]) h2
def aCkLF (own : String) (ini : Bool) (cc : ByteArray) (spc : List Nat) : Nat → List (List aI) → Bool
  | _, [] => true
  | b, l :: r => (match spc[b]? with
    | some pc => aCkF own ini cc spc b pc (cc.data.toList.drop pc) l
    | none => false) && aCkLF own ini cc spc (b + 1) r
theorem aCkLF_s {own : String} {ini : Bool} {cc : ByteArray} {spc : List Nat} : ∀ {C : List (List aI)} {b : Nat}, aCkLF own ini cc spc b C = true → aCkL own ini cc spc b C = true := by
  intro C
  induction C with
  | nil => intro b _; rfl
  | cons l r ih =>
    intro b h
    unfold aCkLF at h
    unfold aCkL
    rw [Bool.and_eq_true] at h ⊢
    refine ⟨?_, ih h.2⟩
    have h1 := h.1
    cases hs : spc[b]? with
    | none =>
      rw [hs] at h1
      cases h1
    | some pc =>
      rw [hs] at h1
      exact aCkF_s rfl h1
