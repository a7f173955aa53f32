/-! an instruction, read off a few bytes that are copied out -/
abbrev dR (α : Type) : Type := Jvm.ClassFile.Decoder α
def dLoc (C W : ByteArray) (a : Nat) {α : Type} (d e : dR α) : Prop := ∀ p x q, d W p = .ok (x, q) → e C (a + p) = .ok (x, a + q)
def dWin (C W : ByteArray) (a : Nat) : Prop := ∀ p (h : p < W.size), ∃ h2 : a + p < C.size, C[a + p]'h2 = W[p]'h
theorem dl_u1k (B : ByteArray) (s : Nat) (hs : s < B.size) : (Jvm.ClassFile.Reader.u1 : dR Nat) B s = .ok ((B[s]'hs).toNat, s + 1) := by
  show (dite (s < B.size) (fun h => (do set (s + 1); pure (B[s]'h).toNat : dR Nat)) (fun _ => throw (Jvm.ClassFile.HasTruncated.truncated s)) : dR Nat) B s = _
  rw [dif_pos hs]
  rfl
theorem dl_u1n (B : ByteArray) (s : Nat) (hs : ¬ s < B.size) : (Jvm.ClassFile.Reader.u1 : dR Nat) B s = .error (Jvm.ClassFile.HasTruncated.truncated s) := by
  show (dite (s < B.size) (fun h => (do set (s + 1); pure (B[s]'h).toNat : dR Nat)) (fun _ => throw (Jvm.ClassFile.HasTruncated.truncated s)) : dR Nat) B s = _
  rw [dif_neg hs]
  rfl
section DM
variable {C W : ByteArray} {a : Nat} {α β : Type}
theorem dl_pure {x : α} : dLoc C W a (pure x) (pure x) := fun p y q h => by
  have h : (Except.ok (x, p) : Except Jvm.ClassFile.DecodeError (α × Nat)) = .ok (y, q) := h
  cases h
  rfl
theorem dl_bind {d e : dR α} {f g : α → dR β} (h1 : dLoc C W a d e) (h2 : ∀ x, dLoc C W a (f x) (g x)) : dLoc C W a (d >>= f) (e >>= g) := fun p y q h => by
  have h : Except.bind (d W p) (fun z => f z.1 W z.2) = .ok (y, q) := h
  show Except.bind (e C (a + p)) (fun z => g z.1 C z.2) = .ok (y, a + q)
  cases hd : d W p with
  | error er =>
    rw [hd] at h
    cases h
  | ok z =>
    rw [hd] at h
    rw [h1 p z.1 z.2 hd]
    exact h2 z.1 z.2 y q h
theorem dl_map {d e : dR α} {f : α → β} (h1 : dLoc C W a d e) : dLoc C W a (f <$> d) (f <$> e) := fun p y q h => by
  have h : Except.bind (d W p) (fun z => Except.ok (f z.1, z.2)) = .ok (y, q) := h
  show Except.bind (e C (a + p)) (fun z => Except.ok (f z.1, z.2)) = .ok (y, a + q)
  cases hd : d W p with
  | error er =>
    rw [hd] at h
    cases h
  | ok z =>
    rw [hd] at h
    rw [h1 p z.1 z.2 hd]
    have h : (Except.ok (f z.1, z.2) : Except Jvm.ClassFile.DecodeError (β × Nat)) = .ok (y, q) := h
    cases h
    rfl
theorem dl_u1 (hW : dWin C W a) : dLoc C W a (Jvm.ClassFile.Reader.u1 : dR Nat) Jvm.ClassFile.Reader.u1 := fun p y q h => by
  by_cases c : p < W.size
  · obtain ⟨h2, e⟩ := hW p c
    rw [dl_u1k W p c] at h
    cases h
    rw [dl_u1k C (a + p) h2, e]
    rfl
  · rw [dl_u1n W p c] at h
    cases h
theorem dl_u2 (hW : dWin C W a) : dLoc C W a (Jvm.ClassFile.Reader.u2 : dR Nat) Jvm.ClassFile.Reader.u2 := dl_bind (dl_u1 hW) fun _ => dl_bind (dl_u1 hW) fun _ => dl_pure
theorem dl_s1 (hW : dWin C W a) : dLoc C W a (Jvm.ClassFile.Reader.s1 : dR Int) Jvm.ClassFile.Reader.s1 := dl_map (dl_u1 hW)
theorem dl_s2 (hW : dWin C W a) : dLoc C W a (Jvm.ClassFile.Reader.s2 : dR Int) Jvm.ClassFile.Reader.s2 := dl_map (dl_u2 hW)
def dL_0 : List Nat := [1, 2, 3, 4, 5, 6, 7, 8, 9, 10, 26, 27, 28, 29, 30, 31, 32, 33, 42, 43, 44, 45, 46, 50, 51, 59, 60, 61, 62, 63, 64, 65, 66, 75, 76, 77, 78, 79, 83, 84, 87, 89, 90, 92, 96, 97, 100, 101, 104, 105, 108, 109, 112, 116, 120, 121, 122, 124, 126, 127, 128, 130, 133, 136, 148, 172, 173, 176, 177, 190]
def dL_1 : List Nat := [18, 21, 22, 25, 54, 55, 58]
def dL_2 : List Nat := [16]
def dL_3 : List Nat := [19, 20, 180, 181, 182, 183, 184, 187, 189]
def dL_4 : List Nat := [17, 153, 154, 155, 156, 157, 158, 159, 160, 161, 162, 163, 164, 167]
def dL_5 : List Nat := [132]
/-- what stands behind the first byte -/
noncomputable def dFF (pc : Nat) : {F : Nat → dR Jvm.ClassFile.Instr // Jvm.ClassFile.Decoder.instr pc = Jvm.ClassFile.Reader.u1 >>= F} := ⟨_, rfl⟩
theorem dk_0 (hW : dWin C W a) (c c2 : Nat) : ∀ k ∈ dL_0, dLoc C W a ((dFF c).1 k) ((dFF c2).1 k) := by
  intro k hk
  simp only [dL_0, List.mem_cons, List.not_mem_nil, or_false] at hk
  rcases hk with rfl | rfl | rfl | rfl | rfl | rfl | rfl | rfl | rfl | rfl | rfl | rfl | rfl | rfl | rfl | rfl | rfl | rfl | rfl | rfl | rfl | rfl | rfl | rfl | rfl | rfl | rfl | rfl | rfl | rfl | rfl | rfl | rfl | rfl | rfl | rfl | rfl | rfl | rfl | rfl | rfl | rfl | rfl | rfl | rfl | rfl | rfl | rfl | rfl | rfl | rfl | rfl | rfl | rfl | rfl | rfl | rfl | rfl | rfl | rfl | rfl | rfl | rfl | rfl | rfl | rfl | rfl | rfl | rfl | rfl
  all_goals exact dl_pure
theorem dk_1 (hW : dWin C W a) (c c2 : Nat) : ∀ k ∈ dL_1, dLoc C W a ((dFF c).1 k) ((dFF c2).1 k) := by
  intro k hk
  simp only [dL_1, List.mem_cons, List.not_mem_nil, or_false] at hk
  rcases hk with rfl | rfl | rfl | rfl | rfl | rfl | rfl
  all_goals exact dl_bind (dl_u1 hW) fun _ => dl_pure
theorem dk_2 (hW : dWin C W a) (c c2 : Nat) : ∀ k ∈ dL_2, dLoc C W a ((dFF c).1 k) ((dFF c2).1 k) := by
  intro k hk
  simp only [dL_2, List.mem_cons, List.not_mem_nil, or_false] at hk
  subst hk
  all_goals exact dl_bind (dl_s1 hW) fun _ => dl_pure
theorem dk_3 (hW : dWin C W a) (c c2 : Nat) : ∀ k ∈ dL_3, dLoc C W a ((dFF c).1 k) ((dFF c2).1 k) := by
  intro k hk
  simp only [dL_3, List.mem_cons, List.not_mem_nil, or_false] at hk
  rcases hk with rfl | rfl | rfl | rfl | rfl | rfl | rfl | rfl | rfl
  all_goals exact dl_bind (dl_u2 hW) fun _ => dl_pure
theorem dk_4 (hW : dWin C W a) (c c2 : Nat) : ∀ k ∈ dL_4, dLoc C W a ((dFF c).1 k) ((dFF c2).1 k) := by
  intro k hk
  simp only [dL_4, List.mem_cons, List.not_mem_nil, or_false] at hk
  rcases hk with rfl | rfl | rfl | rfl | rfl | rfl | rfl | rfl | rfl | rfl | rfl | rfl | rfl | rfl
  all_goals exact dl_bind (dl_s2 hW) fun _ => dl_pure
theorem dk_5 (hW : dWin C W a) (c c2 : Nat) : ∀ k ∈ dL_5, dLoc C W a ((dFF c).1 k) ((dFF c2).1 k) := by
  intro k hk
  simp only [dL_5, List.mem_cons, List.not_mem_nil, or_false] at hk
  subst hk
  all_goals exact dl_bind (dl_u1 hW) fun _ => dl_bind (dl_s1 hW) fun _ => dl_pure
end DM
def dMask : Nat := 0x69f3309ffe100135d71133331698f807fccc7c03fe7f07fe
theorem dMask_ck : ((List.range 256).all fun k => !Nat.testBit dMask k || (dL_0.elem k || (dL_1.elem k || (dL_2.elem k || (dL_3.elem k || (dL_4.elem k || dL_5.elem k)))))) = true := by decide +kernel
theorem dMask_ok (k : Nat) (hk : k < 256) (hm : Nat.testBit dMask k = true) : k ∈ dL_0 ∨ k ∈ dL_1 ∨ k ∈ dL_2 ∨ k ∈ dL_3 ∨ k ∈ dL_4 ∨ k ∈ dL_5 := by
  have q := List.all_eq_true.mp dMask_ck k (List.mem_range.mpr hk)
  rw [hm, Bool.not_true, Bool.false_or] at q
  simp only [Bool.or_eq_true] at q
  rcases q with q | q | q | q | q | q
  · exact Or.inl (List.mem_of_elem_eq_true q)
  · exact Or.inr (Or.inl (List.mem_of_elem_eq_true q))
  · exact Or.inr (Or.inr (Or.inl (List.mem_of_elem_eq_true q)))
  · exact Or.inr (Or.inr (Or.inr (Or.inl (List.mem_of_elem_eq_true q))))
  · exact Or.inr (Or.inr (Or.inr (Or.inr (Or.inl (List.mem_of_elem_eq_true q)))))
  · exact Or.inr (Or.inr (Or.inr (Or.inr (Or.inr (List.mem_of_elem_eq_true q)))))
theorem dk_all {C W : ByteArray} {a : Nat} (hW : dWin C W a) (c c2 : Nat) {k : Nat} (hk : k < 256) (hm : Nat.testBit dMask k = true) : dLoc C W a ((dFF c).1 k) ((dFF c2).1 k) := by
  rcases dMask_ok k hk hm with h | h | h | h | h | h
  · exact dk_0 hW c c2 k h
  · exact dk_1 hW c c2 k h
  · exact dk_2 hW c c2 k h
  · exact dk_3 hW c c2 k h
  · exact dk_4 hW c c2 k h
  · exact dk_5 hW c c2 k h
/-- the few bytes that stand at a place -/
def dB (w : List UInt8) : ByteArray := ⟨⟨w.take 6⟩⟩
theorem dB_win {C : ByteArray} {pc : Nat} {w : List UInt8} (hw : C.data.toList.drop pc = w) : dWin C (dB w) pc := fun p h => by
  subst hw
  have h1 : p < ((C.data.toList.drop pc).take 6).length := h
  have h2 : pc + p < C.data.toList.length := by
    rw [List.length_take, List.length_drop] at h1
    omega
  refine ⟨h2, ?_⟩
  show C.data.toList[pc + p]'h2 = ((C.data.toList.drop pc).take 6)[p]'h1
  rw [List.getElem_take, List.getElem_drop]
def dHd : List UInt8 → Bool
  | b :: _ => Nat.testBit dMask b.toNat
  | [] => false
theorem d_loc {C : ByteArray} {pc : Nat} {w : List UInt8} (hw : C.data.toList.drop pc = w) (hd : dHd w = true) {i : Jvm.ClassFile.Instr} {len : Nat} (h : decode (dB w) 0 = .ok (i, len)) : decode C pc = .ok (i, len) := by
  have hW := dB_win hw
  cases w with
  | nil => cases hd
  | cons b t =>
    have hm : Nat.testBit dMask b.toNat = true := hd
    have k256 : b.toNat < 256 := b.toNat_lt
    have z0 : 0 < (dB (b :: t)).size := by
      show 0 < ((b :: t).take 6).length
      rw [List.length_take, List.length_cons]
      omega
    obtain ⟨h2, e2⟩ := hW 0 z0
    have eb : (dB (b :: t))[0]'z0 = b := rfl
    have h : Except.bind ((Jvm.ClassFile.Decoder.instr 0 : dR _) (dB (b :: t)) 0) (fun z => Except.ok (z.1, z.2 - 0)) = .ok (i, len) := h
    rw [(dFF 0).2] at h
    have h : Except.bind (Except.bind ((Jvm.ClassFile.Reader.u1 : dR Nat) (dB (b :: t)) 0) (fun z => (dFF 0).1 z.1 (dB (b :: t)) z.2)) (fun z => Except.ok (z.1, z.2 - 0)) = .ok (i, len) := h
    rw [dl_u1k _ 0 z0, eb] at h
    have h : Except.bind ((dFF 0).1 b.toNat (dB (b :: t)) 1) (fun z => Except.ok (z.1, z.2 - 0)) = .ok (i, len) := h
    cases hF : (dFF 0).1 b.toNat (dB (b :: t)) 1 with
    | error er =>
      rw [hF] at h
      cases h
    | ok z =>
      rw [hF] at h
      have l := dk_all hW 0 pc k256 hm 1 z.1 z.2 hF
      have h : (Except.ok (z.1, z.2 - 0) : Except Jvm.ClassFile.DecodeError (Jvm.ClassFile.Instr × Nat)) = .ok (i, len) := h
      cases h
      show Except.bind ((Jvm.ClassFile.Decoder.instr pc : dR _) C pc) (fun z => Except.ok (z.1, z.2 - pc)) = _
      rw [(dFF pc).2]
      show Except.bind (Except.bind ((Jvm.ClassFile.Reader.u1 : dR Nat) C pc) (fun z => (dFF pc).1 z.1 C z.2)) (fun z => Except.ok (z.1, z.2 - pc)) = _
      have h3 : pc < C.size := h2
      have e3 : C[pc]'h3 = b := e2.trans eb
      rw [dl_u1k C pc h3, e3]
      show Except.bind ((dFF pc).1 b.toNat C (pc + 1)) (fun z => Except.ok (z.1, z.2 - pc)) = _
      rw [l]
      show (Except.ok (z.1, pc + z.2 - pc) : Except Jvm.ClassFile.DecodeError (Jvm.ClassFile.Instr × Nat)) = .ok (z.1, z.2 - 0)
      rw [Nat.add_sub_cancel_left, Nat.sub_zero]
/-! the same, by a table: what an instruction of one to three bytes is -/
abbrev dZ : Type := Nat × Jvm.ClassFile.Instr × (Nat → Jvm.ClassFile.Instr) × (Int → Jvm.ClassFile.Instr)
def dEx (z : dZ) : dR Jvm.ClassFile.Instr := match z.1 with
  | 0 => pure z.2.1
  | 1 => Jvm.ClassFile.Reader.u1 >>= fun x => pure (z.2.2.1 x)
  | 2 => Jvm.ClassFile.Reader.s1 >>= fun x => pure (z.2.2.2 x)
  | 3 => Jvm.ClassFile.Reader.u2 >>= fun x => pure (z.2.2.1 x)
  | _ => Jvm.ClassFile.Reader.s2 >>= fun x => pure (z.2.2.2 x)
noncomputable def dI_1 : {f : Jvm.ClassFile.Instr // ∀ pc, (dFF pc).1 1 = (pure f : dR Jvm.ClassFile.Instr)} := ⟨_, fun _ => rfl⟩
noncomputable def dI_2 : {f : Jvm.ClassFile.Instr // ∀ pc, (dFF pc).1 2 = (pure f : dR Jvm.ClassFile.Instr)} := ⟨_, fun _ => rfl⟩
noncomputable def dI_3 : {f : Jvm.ClassFile.Instr // ∀ pc, (dFF pc).1 3 = (pure f : dR Jvm.ClassFile.Instr)} := ⟨_, fun _ => rfl⟩
noncomputable def dI_4 : {f : Jvm.ClassFile.Instr // ∀ pc, (dFF pc).1 4 = (pure f : dR Jvm.ClassFile.Instr)} := ⟨_, fun _ => rfl⟩
noncomputable def dI_5 : {f : Jvm.ClassFile.Instr // ∀ pc, (dFF pc).1 5 = (pure f : dR Jvm.ClassFile.Instr)} := ⟨_, fun _ => rfl⟩
noncomputable def dI_6 : {f : Jvm.ClassFile.Instr // ∀ pc, (dFF pc).1 6 = (pure f : dR Jvm.ClassFile.Instr)} := ⟨_, fun _ => rfl⟩
noncomputable def dI_7 : {f : Jvm.ClassFile.Instr // ∀ pc, (dFF pc).1 7 = (pure f : dR Jvm.ClassFile.Instr)} := ⟨_, fun _ => rfl⟩
noncomputable def dI_8 : {f : Jvm.ClassFile.Instr // ∀ pc, (dFF pc).1 8 = (pure f : dR Jvm.ClassFile.Instr)} := ⟨_, fun _ => rfl⟩
noncomputable def dI_9 : {f : Jvm.ClassFile.Instr // ∀ pc, (dFF pc).1 9 = (pure f : dR Jvm.ClassFile.Instr)} := ⟨_, fun _ => rfl⟩
noncomputable def dI_10 : {f : Jvm.ClassFile.Instr // ∀ pc, (dFF pc).1 10 = (pure f : dR Jvm.ClassFile.Instr)} := ⟨_, fun _ => rfl⟩
noncomputable def dI_16 : {f : Int → Jvm.ClassFile.Instr // ∀ pc, (dFF pc).1 16 = ((Jvm.ClassFile.Reader.s1 : dR Int) >>= fun x => pure (f x))} := ⟨fun x => _, fun _ => rfl⟩
noncomputable def dI_17 : {f : Int → Jvm.ClassFile.Instr // ∀ pc, (dFF pc).1 17 = ((Jvm.ClassFile.Reader.s2 : dR Int) >>= fun x => pure (f x))} := ⟨fun x => _, fun _ => rfl⟩
noncomputable def dI_18 : {f : Nat → Jvm.ClassFile.Instr // ∀ pc, (dFF pc).1 18 = ((Jvm.ClassFile.Reader.u1 : dR Nat) >>= fun x => pure (f x))} := ⟨fun x => _, fun _ => rfl⟩
noncomputable def dI_19 : {f : Nat → Jvm.ClassFile.Instr // ∀ pc, (dFF pc).1 19 = ((Jvm.ClassFile.Reader.u2 : dR Nat) >>= fun x => pure (f x))} := ⟨fun x => _, fun _ => rfl⟩
noncomputable def dI_20 : {f : Nat → Jvm.ClassFile.Instr // ∀ pc, (dFF pc).1 20 = ((Jvm.ClassFile.Reader.u2 : dR Nat) >>= fun x => pure (f x))} := ⟨fun x => _, fun _ => rfl⟩
noncomputable def dI_21 : {f : Nat → Jvm.ClassFile.Instr // ∀ pc, (dFF pc).1 21 = ((Jvm.ClassFile.Reader.u1 : dR Nat) >>= fun x => pure (f x))} := ⟨fun x => _, fun _ => rfl⟩
noncomputable def dI_22 : {f : Nat → Jvm.ClassFile.Instr // ∀ pc, (dFF pc).1 22 = ((Jvm.ClassFile.Reader.u1 : dR Nat) >>= fun x => pure (f x))} := ⟨fun x => _, fun _ => rfl⟩
noncomputable def dI_25 : {f : Nat → Jvm.ClassFile.Instr // ∀ pc, (dFF pc).1 25 = ((Jvm.ClassFile.Reader.u1 : dR Nat) >>= fun x => pure (f x))} := ⟨fun x => _, fun _ => rfl⟩
noncomputable def dI_26 : {f : Jvm.ClassFile.Instr // ∀ pc, (dFF pc).1 26 = (pure f : dR Jvm.ClassFile.Instr)} := ⟨_, fun _ => rfl⟩
noncomputable def dI_27 : {f : Jvm.ClassFile.Instr // ∀ pc, (dFF pc).1 27 = (pure f : dR Jvm.ClassFile.Instr)} := ⟨_, fun _ => rfl⟩
noncomputable def dI_28 : {f : Jvm.ClassFile.Instr // ∀ pc, (dFF pc).1 28 = (pure f : dR Jvm.ClassFile.Instr)} := ⟨_, fun _ => rfl⟩
noncomputable def dI_29 : {f : Jvm.ClassFile.Instr // ∀ pc, (dFF pc).1 29 = (pure f : dR Jvm.ClassFile.Instr)} := ⟨_, fun _ => rfl⟩
noncomputable def dI_30 : {f : Jvm.ClassFile.Instr // ∀ pc, (dFF pc).1 30 = (pure f : dR Jvm.ClassFile.Instr)} := ⟨_, fun _ => rfl⟩
noncomputable def dI_31 : {f : Jvm.ClassFile.Instr // ∀ pc, (dFF pc).1 31 = (pure f : dR Jvm.ClassFile.Instr)} := ⟨_, fun _ => rfl⟩
noncomputable def dI_32 : {f : Jvm.ClassFile.Instr // ∀ pc, (dFF pc).1 32 = (pure f : dR Jvm.ClassFile.Instr)} := ⟨_, fun _ => rfl⟩
noncomputable def dI_33 : {f : Jvm.ClassFile.Instr // ∀ pc, (dFF pc).1 33 = (pure f : dR Jvm.ClassFile.Instr)} := ⟨_, fun _ => rfl⟩
noncomputable def dI_42 : {f : Jvm.ClassFile.Instr // ∀ pc, (dFF pc).1 42 = (pure f : dR Jvm.ClassFile.Instr)} := ⟨_, fun _ => rfl⟩
noncomputable def dI_43 : {f : Jvm.ClassFile.Instr // ∀ pc, (dFF pc).1 43 = (pure f : dR Jvm.ClassFile.Instr)} := ⟨_, fun _ => rfl⟩
noncomputable def dI_44 : {f : Jvm.ClassFile.Instr // ∀ pc, (dFF pc).1 44 = (pure f : dR Jvm.ClassFile.Instr)} := ⟨_, fun _ => rfl⟩
noncomputable def dI_45 : {f : Jvm.ClassFile.Instr // ∀ pc, (dFF pc).1 45 = (pure f : dR Jvm.ClassFile.Instr)} := ⟨_, fun _ => rfl⟩
noncomputable def dI_46 : {f : Jvm.ClassFile.Instr // ∀ pc, (dFF pc).1 46 = (pure f : dR Jvm.ClassFile.Instr)} := ⟨_, fun _ => rfl⟩
noncomputable def dI_50 : {f : Jvm.ClassFile.Instr // ∀ pc, (dFF pc).1 50 = (pure f : dR Jvm.ClassFile.Instr)} := ⟨_, fun _ => rfl⟩
noncomputable def dI_51 : {f : Jvm.ClassFile.Instr // ∀ pc, (dFF pc).1 51 = (pure f : dR Jvm.ClassFile.Instr)} := ⟨_, fun _ => rfl⟩
noncomputable def dI_54 : {f : Nat → Jvm.ClassFile.Instr // ∀ pc, (dFF pc).1 54 = ((Jvm.ClassFile.Reader.u1 : dR Nat) >>= fun x => pure (f x))} := ⟨fun x => _, fun _ => rfl⟩
noncomputable def dI_55 : {f : Nat → Jvm.ClassFile.Instr // ∀ pc, (dFF pc).1 55 = ((Jvm.ClassFile.Reader.u1 : dR Nat) >>= fun x => pure (f x))} := ⟨fun x => _, fun _ => rfl⟩
noncomputable def dI_58 : {f : Nat → Jvm.ClassFile.Instr // ∀ pc, (dFF pc).1 58 = ((Jvm.ClassFile.Reader.u1 : dR Nat) >>= fun x => pure (f x))} := ⟨fun x => _, fun _ => rfl⟩
noncomputable def dI_59 : {f : Jvm.ClassFile.Instr // ∀ pc, (dFF pc).1 59 = (pure f : dR Jvm.ClassFile.Instr)} := ⟨_, fun _ => rfl⟩
noncomputable def dI_60 : {f : Jvm.ClassFile.Instr // ∀ pc, (dFF pc).1 60 = (pure f : dR Jvm.ClassFile.Instr)} := ⟨_, fun _ => rfl⟩
noncomputable def dI_61 : {f : Jvm.ClassFile.Instr // ∀ pc, (dFF pc).1 61 = (pure f : dR Jvm.ClassFile.Instr)} := ⟨_, fun _ => rfl⟩
noncomputable def dI_62 : {f : Jvm.ClassFile.Instr // ∀ pc, (dFF pc).1 62 = (pure f : dR Jvm.ClassFile.Instr)} := ⟨_, fun _ => rfl⟩
noncomputable def dI_63 : {f : Jvm.ClassFile.Instr // ∀ pc, (dFF pc).1 63 = (pure f : dR Jvm.ClassFile.Instr)} := ⟨_, fun _ => rfl⟩
noncomputable def dI_64 : {f : Jvm.ClassFile.Instr // ∀ pc, (dFF pc).1 64 = (pure f : dR Jvm.ClassFile.Instr)} := ⟨_, fun _ => rfl⟩
noncomputable def dI_65 : {f : Jvm.ClassFile.Instr // ∀ pc, (dFF pc).1 65 = (pure f : dR Jvm.ClassFile.Instr)} := ⟨_, fun _ => rfl⟩
noncomputable def dI_66 : {f : Jvm.ClassFile.Instr // ∀ pc, (dFF pc).1 66 = (pure f : dR Jvm.ClassFile.Instr)} := ⟨_, fun _ => rfl⟩
noncomputable def dI_75 : {f : Jvm.ClassFile.Instr // ∀ pc, (dFF pc).1 75 = (pure f : dR Jvm.ClassFile.Instr)} := ⟨_, fun _ => rfl⟩
noncomputable def dI_76 : {f : Jvm.ClassFile.Instr // ∀ pc, (dFF pc).1 76 = (pure f : dR Jvm.ClassFile.Instr)} := ⟨_, fun _ => rfl⟩
noncomputable def dI_77 : {f : Jvm.ClassFile.Instr // ∀ pc, (dFF pc).1 77 = (pure f : dR Jvm.ClassFile.Instr)} := ⟨_, fun _ => rfl⟩
noncomputable def dI_78 : {f : Jvm.ClassFile.Instr // ∀ pc, (dFF pc).1 78 = (pure f : dR Jvm.ClassFile.Instr)} := ⟨_, fun _ => rfl⟩
noncomputable def dI_79 : {f : Jvm.ClassFile.Instr // ∀ pc, (dFF pc).1 79 = (pure f : dR Jvm.ClassFile.Instr)} := ⟨_, fun _ => rfl⟩
noncomputable def dI_83 : {f : Jvm.ClassFile.Instr // ∀ pc, (dFF pc).1 83 = (pure f : dR Jvm.ClassFile.Instr)} := ⟨_, fun _ => rfl⟩
noncomputable def dI_84 : {f : Jvm.ClassFile.Instr // ∀ pc, (dFF pc).1 84 = (pure f : dR Jvm.ClassFile.Instr)} := ⟨_, fun _ => rfl⟩
noncomputable def dI_87 : {f : Jvm.ClassFile.Instr // ∀ pc, (dFF pc).1 87 = (pure f : dR Jvm.ClassFile.Instr)} := ⟨_, fun _ => rfl⟩
noncomputable def dI_89 : {f : Jvm.ClassFile.Instr // ∀ pc, (dFF pc).1 89 = (pure f : dR Jvm.ClassFile.Instr)} := ⟨_, fun _ => rfl⟩
noncomputable def dI_90 : {f : Jvm.ClassFile.Instr // ∀ pc, (dFF pc).1 90 = (pure f : dR Jvm.ClassFile.Instr)} := ⟨_, fun _ => rfl⟩
noncomputable def dI_92 : {f : Jvm.ClassFile.Instr // ∀ pc, (dFF pc).1 92 = (pure f : dR Jvm.ClassFile.Instr)} := ⟨_, fun _ => rfl⟩
noncomputable def dI_96 : {f : Jvm.ClassFile.Instr // ∀ pc, (dFF pc).1 96 = (pure f : dR Jvm.ClassFile.Instr)} := ⟨_, fun _ => rfl⟩
noncomputable def dI_97 : {f : Jvm.ClassFile.Instr // ∀ pc, (dFF pc).1 97 = (pure f : dR Jvm.ClassFile.Instr)} := ⟨_, fun _ => rfl⟩
noncomputable def dI_100 : {f : Jvm.ClassFile.Instr // ∀ pc, (dFF pc).1 100 = (pure f : dR Jvm.ClassFile.Instr)} := ⟨_, fun _ => rfl⟩
noncomputable def dI_101 : {f : Jvm.ClassFile.Instr // ∀ pc, (dFF pc).1 101 = (pure f : dR Jvm.ClassFile.Instr)} := ⟨_, fun _ => rfl⟩
noncomputable def dI_104 : {f : Jvm.ClassFile.Instr // ∀ pc, (dFF pc).1 104 = (pure f : dR Jvm.ClassFile.Instr)} := ⟨_, fun _ => rfl⟩
noncomputable def dI_105 : {f : Jvm.ClassFile.Instr // ∀ pc, (dFF pc).1 105 = (pure f : dR Jvm.ClassFile.Instr)} := ⟨_, fun _ => rfl⟩
noncomputable def dI_108 : {f : Jvm.ClassFile.Instr // ∀ pc, (dFF pc).1 108 = (pure f : dR Jvm.ClassFile.Instr)} := ⟨_, fun _ => rfl⟩
noncomputable def dI_109 : {f : Jvm.ClassFile.Instr // ∀ pc, (dFF pc).1 109 = (pure f : dR Jvm.ClassFile.Instr)} := ⟨_, fun _ => rfl⟩
noncomputable def dI_112 : {f : Jvm.ClassFile.Instr // ∀ pc, (dFF pc).1 112 = (pure f : dR Jvm.ClassFile.Instr)} := ⟨_, fun _ => rfl⟩
noncomputable def dI_116 : {f : Jvm.ClassFile.Instr // ∀ pc, (dFF pc).1 116 = (pure f : dR Jvm.ClassFile.Instr)} := ⟨_, fun _ => rfl⟩
noncomputable def dI_120 : {f : Jvm.ClassFile.Instr // ∀ pc, (dFF pc).1 120 = (pure f : dR Jvm.ClassFile.Instr)} := ⟨_, fun _ => rfl⟩
noncomputable def dI_121 : {f : Jvm.ClassFile.Instr // ∀ pc, (dFF pc).1 121 = (pure f : dR Jvm.ClassFile.Instr)} := ⟨_, fun _ => rfl⟩
noncomputable def dI_122 : {f : Jvm.ClassFile.Instr // ∀ pc, (dFF pc).1 122 = (pure f : dR Jvm.ClassFile.Instr)} := ⟨_, fun _ => rfl⟩
noncomputable def dI_124 : {f : Jvm.ClassFile.Instr // ∀ pc, (dFF pc).1 124 = (pure f : dR Jvm.ClassFile.Instr)} := ⟨_, fun _ => rfl⟩
noncomputable def dI_126 : {f : Jvm.ClassFile.Instr // ∀ pc, (dFF pc).1 126 = (pure f : dR Jvm.ClassFile.Instr)} := ⟨_, fun _ => rfl⟩
noncomputable def dI_127 : {f : Jvm.ClassFile.Instr // ∀ pc, (dFF pc).1 127 = (pure f : dR Jvm.ClassFile.Instr)} := ⟨_, fun _ => rfl⟩
noncomputable def dI_128 : {f : Jvm.ClassFile.Instr // ∀ pc, (dFF pc).1 128 = (pure f : dR Jvm.ClassFile.Instr)} := ⟨_, fun _ => rfl⟩
noncomputable def dI_130 : {f : Jvm.ClassFile.Instr // ∀ pc, (dFF pc).1 130 = (pure f : dR Jvm.ClassFile.Instr)} := ⟨_, fun _ => rfl⟩
noncomputable def dI_133 : {f : Jvm.ClassFile.Instr // ∀ pc, (dFF pc).1 133 = (pure f : dR Jvm.ClassFile.Instr)} := ⟨_, fun _ => rfl⟩
noncomputable def dI_136 : {f : Jvm.ClassFile.Instr // ∀ pc, (dFF pc).1 136 = (pure f : dR Jvm.ClassFile.Instr)} := ⟨_, fun _ => rfl⟩
noncomputable def dI_148 : {f : Jvm.ClassFile.Instr // ∀ pc, (dFF pc).1 148 = (pure f : dR Jvm.ClassFile.Instr)} := ⟨_, fun _ => rfl⟩
noncomputable def dI_153 : {f : Int → Jvm.ClassFile.Instr // ∀ pc, (dFF pc).1 153 = ((Jvm.ClassFile.Reader.s2 : dR Int) >>= fun x => pure (f x))} := ⟨fun x => _, fun _ => rfl⟩
noncomputable def dI_154 : {f : Int → Jvm.ClassFile.Instr // ∀ pc, (dFF pc).1 154 = ((Jvm.ClassFile.Reader.s2 : dR Int) >>= fun x => pure (f x))} := ⟨fun x => _, fun _ => rfl⟩
noncomputable def dI_155 : {f : Int → Jvm.ClassFile.Instr // ∀ pc, (dFF pc).1 155 = ((Jvm.ClassFile.Reader.s2 : dR Int) >>= fun x => pure (f x))} := ⟨fun x => _, fun _ => rfl⟩
noncomputable def dI_156 : {f : Int → Jvm.ClassFile.Instr // ∀ pc, (dFF pc).1 156 = ((Jvm.ClassFile.Reader.s2 : dR Int) >>= fun x => pure (f x))} := ⟨fun x => _, fun _ => rfl⟩
noncomputable def dI_157 : {f : Int → Jvm.ClassFile.Instr // ∀ pc, (dFF pc).1 157 = ((Jvm.ClassFile.Reader.s2 : dR Int) >>= fun x => pure (f x))} := ⟨fun x => _, fun _ => rfl⟩
noncomputable def dI_158 : {f : Int → Jvm.ClassFile.Instr // ∀ pc, (dFF pc).1 158 = ((Jvm.ClassFile.Reader.s2 : dR Int) >>= fun x => pure (f x))} := ⟨fun x => _, fun _ => rfl⟩
noncomputable def dI_159 : {f : Int → Jvm.ClassFile.Instr // ∀ pc, (dFF pc).1 159 = ((Jvm.ClassFile.Reader.s2 : dR Int) >>= fun x => pure (f x))} := ⟨fun x => _, fun _ => rfl⟩
noncomputable def dI_160 : {f : Int → Jvm.ClassFile.Instr // ∀ pc, (dFF pc).1 160 = ((Jvm.ClassFile.Reader.s2 : dR Int) >>= fun x => pure (f x))} := ⟨fun x => _, fun _ => rfl⟩
noncomputable def dI_161 : {f : Int → Jvm.ClassFile.Instr // ∀ pc, (dFF pc).1 161 = ((Jvm.ClassFile.Reader.s2 : dR Int) >>= fun x => pure (f x))} := ⟨fun x => _, fun _ => rfl⟩
noncomputable def dI_162 : {f : Int → Jvm.ClassFile.Instr // ∀ pc, (dFF pc).1 162 = ((Jvm.ClassFile.Reader.s2 : dR Int) >>= fun x => pure (f x))} := ⟨fun x => _, fun _ => rfl⟩
noncomputable def dI_163 : {f : Int → Jvm.ClassFile.Instr // ∀ pc, (dFF pc).1 163 = ((Jvm.ClassFile.Reader.s2 : dR Int) >>= fun x => pure (f x))} := ⟨fun x => _, fun _ => rfl⟩
noncomputable def dI_164 : {f : Int → Jvm.ClassFile.Instr // ∀ pc, (dFF pc).1 164 = ((Jvm.ClassFile.Reader.s2 : dR Int) >>= fun x => pure (f x))} := ⟨fun x => _, fun _ => rfl⟩
noncomputable def dI_167 : {f : Int → Jvm.ClassFile.Instr // ∀ pc, (dFF pc).1 167 = ((Jvm.ClassFile.Reader.s2 : dR Int) >>= fun x => pure (f x))} := ⟨fun x => _, fun _ => rfl⟩
noncomputable def dI_172 : {f : Jvm.ClassFile.Instr // ∀ pc, (dFF pc).1 172 = (pure f : dR Jvm.ClassFile.Instr)} := ⟨_, fun _ => rfl⟩
noncomputable def dI_173 : {f : Jvm.ClassFile.Instr // ∀ pc, (dFF pc).1 173 = (pure f : dR Jvm.ClassFile.Instr)} := ⟨_, fun _ => rfl⟩
noncomputable def dI_176 : {f : Jvm.ClassFile.Instr // ∀ pc, (dFF pc).1 176 = (pure f : dR Jvm.ClassFile.Instr)} := ⟨_, fun _ => rfl⟩
noncomputable def dI_177 : {f : Jvm.ClassFile.Instr // ∀ pc, (dFF pc).1 177 = (pure f : dR Jvm.ClassFile.Instr)} := ⟨_, fun _ => rfl⟩
noncomputable def dI_180 : {f : Nat → Jvm.ClassFile.Instr // ∀ pc, (dFF pc).1 180 = ((Jvm.ClassFile.Reader.u2 : dR Nat) >>= fun x => pure (f x))} := ⟨fun x => _, fun _ => rfl⟩
noncomputable def dI_181 : {f : Nat → Jvm.ClassFile.Instr // ∀ pc, (dFF pc).1 181 = ((Jvm.ClassFile.Reader.u2 : dR Nat) >>= fun x => pure (f x))} := ⟨fun x => _, fun _ => rfl⟩
noncomputable def dI_182 : {f : Nat → Jvm.ClassFile.Instr // ∀ pc, (dFF pc).1 182 = ((Jvm.ClassFile.Reader.u2 : dR Nat) >>= fun x => pure (f x))} := ⟨fun x => _, fun _ => rfl⟩
noncomputable def dI_183 : {f : Nat → Jvm.ClassFile.Instr // ∀ pc, (dFF pc).1 183 = ((Jvm.ClassFile.Reader.u2 : dR Nat) >>= fun x => pure (f x))} := ⟨fun x => _, fun _ => rfl⟩
noncomputable def dI_184 : {f : Nat → Jvm.ClassFile.Instr // ∀ pc, (dFF pc).1 184 = ((Jvm.ClassFile.Reader.u2 : dR Nat) >>= fun x => pure (f x))} := ⟨fun x => _, fun _ => rfl⟩
noncomputable def dI_187 : {f : Nat → Jvm.ClassFile.Instr // ∀ pc, (dFF pc).1 187 = ((Jvm.ClassFile.Reader.u2 : dR Nat) >>= fun x => pure (f x))} := ⟨fun x => _, fun _ => rfl⟩
noncomputable def dI_189 : {f : Nat → Jvm.ClassFile.Instr // ∀ pc, (dFF pc).1 189 = ((Jvm.ClassFile.Reader.u2 : dR Nat) >>= fun x => pure (f x))} := ⟨fun x => _, fun _ => rfl⟩
noncomputable def dI_190 : {f : Jvm.ClassFile.Instr // ∀ pc, (dFF pc).1 190 = (pure f : dR Jvm.ClassFile.Instr)} := ⟨_, fun _ => rfl⟩
noncomputable def dTab (k : Nat) : Option dZ := (bif Nat.blt k 84 then (bif Nat.blt k 33 then (bif Nat.blt k 18 then (bif Nat.blt k 7 then (bif Nat.blt k 4 then (bif Nat.blt k 2 then (bif Nat.beq k 1 then some (0, dI_1.1, fun _ => .nop, fun _ => .nop) else none) else (bif Nat.blt k 3 then (bif Nat.beq k 2 then some (0, dI_2.1, fun _ => .nop, fun _ => .nop) else none) else (bif Nat.beq k 3 then some (0, dI_3.1, fun _ => .nop, fun _ => .nop) else none))) else (bif Nat.blt k 5 then (bif Nat.beq k 4 then some (0, dI_4.1, fun _ => .nop, fun _ => .nop) else none) else (bif Nat.blt k 6 then (bif Nat.beq k 5 then some (0, dI_5.1, fun _ => .nop, fun _ => .nop) else none) else (bif Nat.beq k 6 then some (0, dI_6.1, fun _ => .nop, fun _ => .nop) else none)))) else (bif Nat.blt k 10 then (bif Nat.blt k 8 then (bif Nat.beq k 7 then some (0, dI_7.1, fun _ => .nop, fun _ => .nop) else none) else (bif Nat.blt k 9 then (bif Nat.beq k 8 then some (0, dI_8.1, fun _ => .nop, fun _ => .nop) else none) else (bif Nat.beq k 9 then some (0, dI_9.1, fun _ => .nop, fun _ => .nop) else none))) else (bif Nat.blt k 16 then (bif Nat.beq k 10 then some (0, dI_10.1, fun _ => .nop, fun _ => .nop) else none) else (bif Nat.blt k 17 then (bif Nat.beq k 16 then some (2, .nop, fun _ => .nop, dI_16.1) else none) else (bif Nat.beq k 17 then some (4, .nop, fun _ => .nop, dI_17.1) else none))))) else (bif Nat.blt k 26 then (bif Nat.blt k 21 then (bif Nat.blt k 19 then (bif Nat.beq k 18 then some (1, .nop, dI_18.1, fun _ => .nop) else none) else (bif Nat.blt k 20 then (bif Nat.beq k 19 then some (3, .nop, dI_19.1, fun _ => .nop) else none) else (bif Nat.beq k 20 then some (3, .nop, dI_20.1, fun _ => .nop) else none))) else (bif Nat.blt k 22 then (bif Nat.beq k 21 then some (1, .nop, dI_21.1, fun _ => .nop) else none) else (bif Nat.blt k 25 then (bif Nat.beq k 22 then some (1, .nop, dI_22.1, fun _ => .nop) else none) else (bif Nat.beq k 25 then some (1, .nop, dI_25.1, fun _ => .nop) else none)))) else (bif Nat.blt k 29 then (bif Nat.blt k 27 then (bif Nat.beq k 26 then some (0, dI_26.1, fun _ => .nop, fun _ => .nop) else none) else (bif Nat.blt k 28 then (bif Nat.beq k 27 then some (0, dI_27.1, fun _ => .nop, fun _ => .nop) else none) else (bif Nat.beq k 28 then some (0, dI_28.1, fun _ => .nop, fun _ => .nop) else none))) else (bif Nat.blt k 31 then (bif Nat.blt k 30 then (bif Nat.beq k 29 then some (0, dI_29.1, fun _ => .nop, fun _ => .nop) else none) else (bif Nat.beq k 30 then some (0, dI_30.1, fun _ => .nop, fun _ => .nop) else none)) else (bif Nat.blt k 32 then (bif Nat.beq k 31 then some (0, dI_31.1, fun _ => .nop, fun _ => .nop) else none) else (bif Nat.beq k 32 then some (0, dI_32.1, fun _ => .nop, fun _ => .nop) else none)))))) else (bif Nat.blt k 60 then (bif Nat.blt k 50 then (bif Nat.blt k 44 then (bif Nat.blt k 42 then (bif Nat.beq k 33 then some (0, dI_33.1, fun _ => .nop, fun _ => .nop) else none) else (bif Nat.blt k 43 then (bif Nat.beq k 42 then some (0, dI_42.1, fun _ => .nop, fun _ => .nop) else none) else (bif Nat.beq k 43 then some (0, dI_43.1, fun _ => .nop, fun _ => .nop) else none))) else (bif Nat.blt k 45 then (bif Nat.beq k 44 then some (0, dI_44.1, fun _ => .nop, fun _ => .nop) else none) else (bif Nat.blt k 46 then (bif Nat.beq k 45 then some (0, dI_45.1, fun _ => .nop, fun _ => .nop) else none) else (bif Nat.beq k 46 then some (0, dI_46.1, fun _ => .nop, fun _ => .nop) else none)))) else (bif Nat.blt k 55 then (bif Nat.blt k 51 then (bif Nat.beq k 50 then some (0, dI_50.1, fun _ => .nop, fun _ => .nop) else none) else (bif Nat.blt k 54 then (bif Nat.beq k 51 then some (0, dI_51.1, fun _ => .nop, fun _ => .nop) else none) else (bif Nat.beq k 54 then some (1, .nop, dI_54.1, fun _ => .nop) else none))) else (bif Nat.blt k 58 then (bif Nat.beq k 55 then some (1, .nop, dI_55.1, fun _ => .nop) else none) else (bif Nat.blt k 59 then (bif Nat.beq k 58 then some (1, .nop, dI_58.1, fun _ => .nop) else none) else (bif Nat.beq k 59 then some (0, dI_59.1, fun _ => .nop, fun _ => .nop) else none))))) else (bif Nat.blt k 66 then (bif Nat.blt k 63 then (bif Nat.blt k 61 then (bif Nat.beq k 60 then some (0, dI_60.1, fun _ => .nop, fun _ => .nop) else none) else (bif Nat.blt k 62 then (bif Nat.beq k 61 then some (0, dI_61.1, fun _ => .nop, fun _ => .nop) else none) else (bif Nat.beq k 62 then some (0, dI_62.1, fun _ => .nop, fun _ => .nop) else none))) else (bif Nat.blt k 64 then (bif Nat.beq k 63 then some (0, dI_63.1, fun _ => .nop, fun _ => .nop) else none) else (bif Nat.blt k 65 then (bif Nat.beq k 64 then some (0, dI_64.1, fun _ => .nop, fun _ => .nop) else none) else (bif Nat.beq k 65 then some (0, dI_65.1, fun _ => .nop, fun _ => .nop) else none)))) else (bif Nat.blt k 77 then (bif Nat.blt k 75 then (bif Nat.beq k 66 then some (0, dI_66.1, fun _ => .nop, fun _ => .nop) else none) else (bif Nat.blt k 76 then (bif Nat.beq k 75 then some (0, dI_75.1, fun _ => .nop, fun _ => .nop) else none) else (bif Nat.beq k 76 then some (0, dI_76.1, fun _ => .nop, fun _ => .nop) else none))) else (bif Nat.blt k 79 then (bif Nat.blt k 78 then (bif Nat.beq k 77 then some (0, dI_77.1, fun _ => .nop, fun _ => .nop) else none) else (bif Nat.beq k 78 then some (0, dI_78.1, fun _ => .nop, fun _ => .nop) else none)) else (bif Nat.blt k 83 then (bif Nat.beq k 79 then some (0, dI_79.1, fun _ => .nop, fun _ => .nop) else none) else (bif Nat.beq k 83 then some (0, dI_83.1, fun _ => .nop, fun _ => .nop) else none))))))) else (bif Nat.blt k 148 then (bif Nat.blt k 109 then (bif Nat.blt k 97 then (bif Nat.blt k 90 then (bif Nat.blt k 87 then (bif Nat.beq k 84 then some (0, dI_84.1, fun _ => .nop, fun _ => .nop) else none) else (bif Nat.blt k 89 then (bif Nat.beq k 87 then some (0, dI_87.1, fun _ => .nop, fun _ => .nop) else none) else (bif Nat.beq k 89 then some (0, dI_89.1, fun _ => .nop, fun _ => .nop) else none))) else (bif Nat.blt k 92 then (bif Nat.beq k 90 then some (0, dI_90.1, fun _ => .nop, fun _ => .nop) else none) else (bif Nat.blt k 96 then (bif Nat.beq k 92 then some (0, dI_92.1, fun _ => .nop, fun _ => .nop) else none) else (bif Nat.beq k 96 then some (0, dI_96.1, fun _ => .nop, fun _ => .nop) else none)))) else (bif Nat.blt k 104 then (bif Nat.blt k 100 then (bif Nat.beq k 97 then some (0, dI_97.1, fun _ => .nop, fun _ => .nop) else none) else (bif Nat.blt k 101 then (bif Nat.beq k 100 then some (0, dI_100.1, fun _ => .nop, fun _ => .nop) else none) else (bif Nat.beq k 101 then some (0, dI_101.1, fun _ => .nop, fun _ => .nop) else none))) else (bif Nat.blt k 105 then (bif Nat.beq k 104 then some (0, dI_104.1, fun _ => .nop, fun _ => .nop) else none) else (bif Nat.blt k 108 then (bif Nat.beq k 105 then some (0, dI_105.1, fun _ => .nop, fun _ => .nop) else none) else (bif Nat.beq k 108 then some (0, dI_108.1, fun _ => .nop, fun _ => .nop) else none))))) else (bif Nat.blt k 124 then (bif Nat.blt k 120 then (bif Nat.blt k 112 then (bif Nat.beq k 109 then some (0, dI_109.1, fun _ => .nop, fun _ => .nop) else none) else (bif Nat.blt k 116 then (bif Nat.beq k 112 then some (0, dI_112.1, fun _ => .nop, fun _ => .nop) else none) else (bif Nat.beq k 116 then some (0, dI_116.1, fun _ => .nop, fun _ => .nop) else none))) else (bif Nat.blt k 121 then (bif Nat.beq k 120 then some (0, dI_120.1, fun _ => .nop, fun _ => .nop) else none) else (bif Nat.blt k 122 then (bif Nat.beq k 121 then some (0, dI_121.1, fun _ => .nop, fun _ => .nop) else none) else (bif Nat.beq k 122 then some (0, dI_122.1, fun _ => .nop, fun _ => .nop) else none)))) else (bif Nat.blt k 128 then (bif Nat.blt k 126 then (bif Nat.beq k 124 then some (0, dI_124.1, fun _ => .nop, fun _ => .nop) else none) else (bif Nat.blt k 127 then (bif Nat.beq k 126 then some (0, dI_126.1, fun _ => .nop, fun _ => .nop) else none) else (bif Nat.beq k 127 then some (0, dI_127.1, fun _ => .nop, fun _ => .nop) else none))) else (bif Nat.blt k 133 then (bif Nat.blt k 130 then (bif Nat.beq k 128 then some (0, dI_128.1, fun _ => .nop, fun _ => .nop) else none) else (bif Nat.beq k 130 then some (0, dI_130.1, fun _ => .nop, fun _ => .nop) else none)) else (bif Nat.blt k 136 then (bif Nat.beq k 133 then some (0, dI_133.1, fun _ => .nop, fun _ => .nop) else none) else (bif Nat.beq k 136 then some (0, dI_136.1, fun _ => .nop, fun _ => .nop) else none)))))) else (bif Nat.blt k 167 then (bif Nat.blt k 158 then (bif Nat.blt k 155 then (bif Nat.blt k 153 then (bif Nat.beq k 148 then some (0, dI_148.1, fun _ => .nop, fun _ => .nop) else none) else (bif Nat.blt k 154 then (bif Nat.beq k 153 then some (4, .nop, fun _ => .nop, dI_153.1) else none) else (bif Nat.beq k 154 then some (4, .nop, fun _ => .nop, dI_154.1) else none))) else (bif Nat.blt k 156 then (bif Nat.beq k 155 then some (4, .nop, fun _ => .nop, dI_155.1) else none) else (bif Nat.blt k 157 then (bif Nat.beq k 156 then some (4, .nop, fun _ => .nop, dI_156.1) else none) else (bif Nat.beq k 157 then some (4, .nop, fun _ => .nop, dI_157.1) else none)))) else (bif Nat.blt k 161 then (bif Nat.blt k 159 then (bif Nat.beq k 158 then some (4, .nop, fun _ => .nop, dI_158.1) else none) else (bif Nat.blt k 160 then (bif Nat.beq k 159 then some (4, .nop, fun _ => .nop, dI_159.1) else none) else (bif Nat.beq k 160 then some (4, .nop, fun _ => .nop, dI_160.1) else none))) else (bif Nat.blt k 163 then (bif Nat.blt k 162 then (bif Nat.beq k 161 then some (4, .nop, fun _ => .nop, dI_161.1) else none) else (bif Nat.beq k 162 then some (4, .nop, fun _ => .nop, dI_162.1) else none)) else (bif Nat.blt k 164 then (bif Nat.beq k 163 then some (4, .nop, fun _ => .nop, dI_163.1) else none) else (bif Nat.beq k 164 then some (4, .nop, fun _ => .nop, dI_164.1) else none))))) else (bif Nat.blt k 181 then (bif Nat.blt k 176 then (bif Nat.blt k 172 then (bif Nat.beq k 167 then some (4, .nop, fun _ => .nop, dI_167.1) else none) else (bif Nat.blt k 173 then (bif Nat.beq k 172 then some (0, dI_172.1, fun _ => .nop, fun _ => .nop) else none) else (bif Nat.beq k 173 then some (0, dI_173.1, fun _ => .nop, fun _ => .nop) else none))) else (bif Nat.blt k 177 then (bif Nat.beq k 176 then some (0, dI_176.1, fun _ => .nop, fun _ => .nop) else none) else (bif Nat.blt k 180 then (bif Nat.beq k 177 then some (0, dI_177.1, fun _ => .nop, fun _ => .nop) else none) else (bif Nat.beq k 180 then some (3, .nop, dI_180.1, fun _ => .nop) else none)))) else (bif Nat.blt k 184 then (bif Nat.blt k 182 then (bif Nat.beq k 181 then some (3, .nop, dI_181.1, fun _ => .nop) else none) else (bif Nat.blt k 183 then (bif Nat.beq k 182 then some (3, .nop, dI_182.1, fun _ => .nop) else none) else (bif Nat.beq k 183 then some (3, .nop, dI_183.1, fun _ => .nop) else none))) else (bif Nat.blt k 189 then (bif Nat.blt k 187 then (bif Nat.beq k 184 then some (3, .nop, dI_184.1, fun _ => .nop) else none) else (bif Nat.beq k 187 then some (3, .nop, dI_187.1, fun _ => .nop) else none)) else (bif Nat.blt k 190 then (bif Nat.beq k 189 then some (3, .nop, dI_189.1, fun _ => .nop) else none) else (bif Nat.beq k 190 then some (0, dI_190.1, fun _ => .nop, fun _ => .nop) else none))))))))
theorem dT_node {α : Type} {c : Bool} {A B : Option α} {z : α} (h : (bif c then A else B) = some z) : A = some z ∨ B = some z := by
  cases c
  · exact Or.inr h
  · exact Or.inl h
theorem dT_leaf {k n : Nat} {y z : dZ} (h : (bif Nat.beq k n then some y else none) = some z) : k = n ∧ z = y := by
  cases e : Nat.beq k n with
  | true =>
    rw [e] at h
    have h : some y = some z := h
    cases h
    exact ⟨Nat.eq_of_beq_eq_true e, rfl⟩
  | false =>
    rw [e] at h
    have h : (none : Option dZ) = some z := h
    cases h
theorem dTab_s {k : Nat} {z : dZ} (h : dTab k = some z) : ∀ pc, (dFF pc).1 k = dEx z := ((dT_node h).elim (fun h => ((dT_node h).elim (fun h => ((dT_node h).elim (fun h => ((dT_node h).elim (fun h => ((dT_node h).elim (fun h => ((dT_node h).elim (fun h => (by obtain ⟨rfl, rfl⟩ := dT_leaf h; exact dI_1.2)) (fun h => ((dT_node h).elim (fun h => (by obtain ⟨rfl, rfl⟩ := dT_leaf h; exact dI_2.2)) (fun h => (by obtain ⟨rfl, rfl⟩ := dT_leaf h; exact dI_3.2)))))) (fun h => ((dT_node h).elim (fun h => (by obtain ⟨rfl, rfl⟩ := dT_leaf h; exact dI_4.2)) (fun h => ((dT_node h).elim (fun h => (by obtain ⟨rfl, rfl⟩ := dT_leaf h; exact dI_5.2)) (fun h => (by obtain ⟨rfl, rfl⟩ := dT_leaf h; exact dI_6.2)))))))) (fun h => ((dT_node h).elim (fun h => ((dT_node h).elim (fun h => (by obtain ⟨rfl, rfl⟩ := dT_leaf h; exact dI_7.2)) (fun h => ((dT_node h).elim (fun h => (by obtain ⟨rfl, rfl⟩ := dT_leaf h; exact dI_8.2)) (fun h => (by obtain ⟨rfl, rfl⟩ := dT_leaf h; exact dI_9.2)))))) (fun h => ((dT_node h).elim (fun h => (by obtain ⟨rfl, rfl⟩ := dT_leaf h; exact dI_10.2)) (fun h => ((dT_node h).elim (fun h => (by obtain ⟨rfl, rfl⟩ := dT_leaf h; exact dI_16.2)) (fun h => (by obtain ⟨rfl, rfl⟩ := dT_leaf h; exact dI_17.2)))))))))) (fun h => ((dT_node h).elim (fun h => ((dT_node h).elim (fun h => ((dT_node h).elim (fun h => (by obtain ⟨rfl, rfl⟩ := dT_leaf h; exact dI_18.2)) (fun h => ((dT_node h).elim (fun h => (by obtain ⟨rfl, rfl⟩ := dT_leaf h; exact dI_19.2)) (fun h => (by obtain ⟨rfl, rfl⟩ := dT_leaf h; exact dI_20.2)))))) (fun h => ((dT_node h).elim (fun h => (by obtain ⟨rfl, rfl⟩ := dT_leaf h; exact dI_21.2)) (fun h => ((dT_node h).elim (fun h => (by obtain ⟨rfl, rfl⟩ := dT_leaf h; exact dI_22.2)) (fun h => (by obtain ⟨rfl, rfl⟩ := dT_leaf h; exact dI_25.2)))))))) (fun h => ((dT_node h).elim (fun h => ((dT_node h).elim (fun h => (by obtain ⟨rfl, rfl⟩ := dT_leaf h; exact dI_26.2)) (fun h => ((dT_node h).elim (fun h => (by obtain ⟨rfl, rfl⟩ := dT_leaf h; exact dI_27.2)) (fun h => (by obtain ⟨rfl, rfl⟩ := dT_leaf h; exact dI_28.2)))))) (fun h => ((dT_node h).elim (fun h => ((dT_node h).elim (fun h => (by obtain ⟨rfl, rfl⟩ := dT_leaf h; exact dI_29.2)) (fun h => (by obtain ⟨rfl, rfl⟩ := dT_leaf h; exact dI_30.2)))) (fun h => ((dT_node h).elim (fun h => (by obtain ⟨rfl, rfl⟩ := dT_leaf h; exact dI_31.2)) (fun h => (by obtain ⟨rfl, rfl⟩ := dT_leaf h; exact dI_32.2)))))))))))) (fun h => ((dT_node h).elim (fun h => ((dT_node h).elim (fun h => ((dT_node h).elim (fun h => ((dT_node h).elim (fun h => (by obtain ⟨rfl, rfl⟩ := dT_leaf h; exact dI_33.2)) (fun h => ((dT_node h).elim (fun h => (by obtain ⟨rfl, rfl⟩ := dT_leaf h; exact dI_42.2)) (fun h => (by obtain ⟨rfl, rfl⟩ := dT_leaf h; exact dI_43.2)))))) (fun h => ((dT_node h).elim (fun h => (by obtain ⟨rfl, rfl⟩ := dT_leaf h; exact dI_44.2)) (fun h => ((dT_node h).elim (fun h => (by obtain ⟨rfl, rfl⟩ := dT_leaf h; exact dI_45.2)) (fun h => (by obtain ⟨rfl, rfl⟩ := dT_leaf h; exact dI_46.2)))))))) (fun h => ((dT_node h).elim (fun h => ((dT_node h).elim (fun h => (by obtain ⟨rfl, rfl⟩ := dT_leaf h; exact dI_50.2)) (fun h => ((dT_node h).elim (fun h => (by obtain ⟨rfl, rfl⟩ := dT_leaf h; exact dI_51.2)) (fun h => (by obtain ⟨rfl, rfl⟩ := dT_leaf h; exact dI_54.2)))))) (fun h => ((dT_node h).elim (fun h => (by obtain ⟨rfl, rfl⟩ := dT_leaf h; exact dI_55.2)) (fun h => ((dT_node h).elim (fun h => (by obtain ⟨rfl, rfl⟩ := dT_leaf h; exact dI_58.2)) (fun h => (by obtain ⟨rfl, rfl⟩ := dT_leaf h; exact dI_59.2)))))))))) (fun h => ((dT_node h).elim (fun h => ((dT_node h).elim (fun h => ((dT_node h).elim (fun h => (by obtain ⟨rfl, rfl⟩ := dT_leaf h; exact dI_60.2)) (fun h => ((dT_node h).elim (fun h => (by obtain ⟨rfl, rfl⟩ := dT_leaf h; exact dI_61.2)) (fun h => (by obtain ⟨rfl, rfl⟩ := dT_leaf h; exact dI_62.2)))))) (fun h => ((dT_node h).elim (fun h => (by obtain ⟨rfl, rfl⟩ := dT_leaf h; exact dI_63.2)) (fun h => ((dT_node h).elim (fun h => (by obtain ⟨rfl, rfl⟩ := dT_leaf h; exact dI_64.2)) (fun h => (by obtain ⟨rfl, rfl⟩ := dT_leaf h; exact dI_65.2)))))))) (fun h => ((dT_node h).elim (fun h => ((dT_node h).elim (fun h => (by obtain ⟨rfl, rfl⟩ := dT_leaf h; exact dI_66.2)) (fun h => ((dT_node h).elim (fun h => (by obtain ⟨rfl, rfl⟩ := dT_leaf h; exact dI_75.2)) (fun h => (by obtain ⟨rfl, rfl⟩ := dT_leaf h; exact dI_76.2)))))) (fun h => ((dT_node h).elim (fun h => ((dT_node h).elim (fun h => (by obtain ⟨rfl, rfl⟩ := dT_leaf h; exact dI_77.2)) (fun h => (by obtain ⟨rfl, rfl⟩ := dT_leaf h; exact dI_78.2)))) (fun h => ((dT_node h).elim (fun h => (by obtain ⟨rfl, rfl⟩ := dT_leaf h; exact dI_79.2)) (fun h => (by obtain ⟨rfl, rfl⟩ := dT_leaf h; exact dI_83.2)))))))))))))) (fun h => ((dT_node h).elim (fun h => ((dT_node h).elim (fun h => ((dT_node h).elim (fun h => ((dT_node h).elim (fun h => ((dT_node h).elim (fun h => (by obtain ⟨rfl, rfl⟩ := dT_leaf h; exact dI_84.2)) (fun h => ((dT_node h).elim (fun h => (by obtain ⟨rfl, rfl⟩ := dT_leaf h; exact dI_87.2)) (fun h => (by obtain ⟨rfl, rfl⟩ := dT_leaf h; exact dI_89.2)))))) (fun h => ((dT_node h).elim (fun h => (by obtain ⟨rfl, rfl⟩ := dT_leaf h; exact dI_90.2)) (fun h => ((dT_node h).elim (fun h => (by obtain ⟨rfl, rfl⟩ := dT_leaf h; exact dI_92.2)) (fun h => (by obtain ⟨rfl, rfl⟩ := dT_leaf h; exact dI_96.2)))))))) (fun h => ((dT_node h).elim (fun h => ((dT_node h).elim (fun h => (by obtain ⟨rfl, rfl⟩ := dT_leaf h; exact dI_97.2)) (fun h => ((dT_node h).elim (fun h => (by obtain ⟨rfl, rfl⟩ := dT_leaf h; exact dI_100.2)) (fun h => (by obtain ⟨rfl, rfl⟩ := dT_leaf h; exact dI_101.2)))))) (fun h => ((dT_node h).elim (fun h => (by obtain ⟨rfl, rfl⟩ := dT_leaf h; exact dI_104.2)) (fun h => ((dT_node h).elim (fun h => (by obtain ⟨rfl, rfl⟩ := dT_leaf h; exact dI_105.2)) (fun h => (by obtain ⟨rfl, rfl⟩ := dT_leaf h; exact dI_108.2)))))))))) (fun h => ((dT_node h).elim (fun h => ((dT_node h).elim (fun h => ((dT_node h).elim (fun h => (by obtain ⟨rfl, rfl⟩ := dT_leaf h; exact dI_109.2)) (fun h => ((dT_node h).elim (fun h => (by obtain ⟨rfl, rfl⟩ := dT_leaf h; exact dI_112.2)) (fun h => (by obtain ⟨rfl, rfl⟩ := dT_leaf h; exact dI_116.2)))))) (fun h => ((dT_node h).elim (fun h => (by obtain ⟨rfl, rfl⟩ := dT_leaf h; exact dI_120.2)) (fun h => ((dT_node h).elim (fun h => (by obtain ⟨rfl, rfl⟩ := dT_leaf h; exact dI_121.2)) (fun h => (by obtain ⟨rfl, rfl⟩ := dT_leaf h; exact dI_122.2)))))))) (fun h => ((dT_node h).elim (fun h => ((dT_node h).elim (fun h => (by obtain ⟨rfl, rfl⟩ := dT_leaf h; exact dI_124.2)) (fun h => ((dT_node h).elim (fun h => (by obtain ⟨rfl, rfl⟩ := dT_leaf h; exact dI_126.2)) (fun h => (by obtain ⟨rfl, rfl⟩ := dT_leaf h; exact dI_127.2)))))) (fun h => ((dT_node h).elim (fun h => ((dT_node h).elim (fun h => (by obtain ⟨rfl, rfl⟩ := dT_leaf h; exact dI_128.2)) (fun h => (by obtain ⟨rfl, rfl⟩ := dT_leaf h; exact dI_130.2)))) (fun h => ((dT_node h).elim (fun h => (by obtain ⟨rfl, rfl⟩ := dT_leaf h; exact dI_133.2)) (fun h => (by obtain ⟨rfl, rfl⟩ := dT_leaf h; exact dI_136.2)))))))))))) (fun h => ((dT_node h).elim (fun h => ((dT_node h).elim (fun h => ((dT_node h).elim (fun h => ((dT_node h).elim (fun h => (by obtain ⟨rfl, rfl⟩ := dT_leaf h; exact dI_148.2)) (fun h => ((dT_node h).elim (fun h => (by obtain ⟨rfl, rfl⟩ := dT_leaf h; exact dI_153.2)) (fun h => (by obtain ⟨rfl, rfl⟩ := dT_leaf h; exact dI_154.2)))))) (fun h => ((dT_node h).elim (fun h => (by obtain ⟨rfl, rfl⟩ := dT_leaf h; exact dI_155.2)) (fun h => ((dT_node h).elim (fun h => (by obtain ⟨rfl, rfl⟩ := dT_leaf h; exact dI_156.2)) (fun h => (by obtain ⟨rfl, rfl⟩ := dT_leaf h; exact dI_157.2)))))))) (fun h => ((dT_node h).elim (fun h => ((dT_node h).elim (fun h => (by obtain ⟨rfl, rfl⟩ := dT_leaf h; exact dI_158.2)) (fun h => ((dT_node h).elim (fun h => (by obtain ⟨rfl, rfl⟩ := dT_leaf h; exact dI_159.2)) (fun h => (by obtain ⟨rfl, rfl⟩ := dT_leaf h; exact dI_160.2)))))) (fun h => ((dT_node h).elim (fun h => ((dT_node h).elim (fun h => (by obtain ⟨rfl, rfl⟩ := dT_leaf h; exact dI_161.2)) (fun h => (by obtain ⟨rfl, rfl⟩ := dT_leaf h; exact dI_162.2)))) (fun h => ((dT_node h).elim (fun h => (by obtain ⟨rfl, rfl⟩ := dT_leaf h; exact dI_163.2)) (fun h => (by obtain ⟨rfl, rfl⟩ := dT_leaf h; exact dI_164.2)))))))))) (fun h => ((dT_node h).elim (fun h => ((dT_node h).elim (fun h => ((dT_node h).elim (fun h => (by obtain ⟨rfl, rfl⟩ := dT_leaf h; exact dI_167.2)) (fun h => ((dT_node h).elim (fun h => (by obtain ⟨rfl, rfl⟩ := dT_leaf h; exact dI_172.2)) (fun h => (by obtain ⟨rfl, rfl⟩ := dT_leaf h; exact dI_173.2)))))) (fun h => ((dT_node h).elim (fun h => (by obtain ⟨rfl, rfl⟩ := dT_leaf h; exact dI_176.2)) (fun h => ((dT_node h).elim (fun h => (by obtain ⟨rfl, rfl⟩ := dT_leaf h; exact dI_177.2)) (fun h => (by obtain ⟨rfl, rfl⟩ := dT_leaf h; exact dI_180.2)))))))) (fun h => ((dT_node h).elim (fun h => ((dT_node h).elim (fun h => (by obtain ⟨rfl, rfl⟩ := dT_leaf h; exact dI_181.2)) (fun h => ((dT_node h).elim (fun h => (by obtain ⟨rfl, rfl⟩ := dT_leaf h; exact dI_182.2)) (fun h => (by obtain ⟨rfl, rfl⟩ := dT_leaf h; exact dI_183.2)))))) (fun h => ((dT_node h).elim (fun h => ((dT_node h).elim (fun h => (by obtain ⟨rfl, rfl⟩ := dT_leaf h; exact dI_184.2)) (fun h => (by obtain ⟨rfl, rfl⟩ := dT_leaf h; exact dI_187.2)))) (fun h => ((dT_node h).elim (fun h => (by obtain ⟨rfl, rfl⟩ := dT_leaf h; exact dI_189.2)) (fun h => (by obtain ⟨rfl, rfl⟩ := dT_leaf h; exact dI_190.2)))))))))))))))
def dVal (z : dZ) (t : List UInt8) : Option (Jvm.ClassFile.Instr × Nat) := match z.1 with
  | 0 => some (z.2.1, 1)
  | 1 => match t with
    | x :: _ => some (z.2.2.1 x.toNat, 2)
    | [] => none
  | 2 => match t with
    | x :: _ => some (z.2.2.2 (Jvm.ClassFile.Reader.signed 8 x.toNat), 2)
    | [] => none
  | 3 => match t with
    | x :: y :: _ => some (z.2.2.1 (x.toNat * 256 + y.toNat), 3)
    | _ => none
  | 4 => match t with
    | x :: y :: _ => some (z.2.2.2 (Jvm.ClassFile.Reader.signed 16 (x.toNat * 256 + y.toNat)), 3)
    | _ => none
  | _ => none
theorem d_at {C : ByteArray} {pc : Nat} {b : UInt8} {t : List UInt8} (hw : C.data.toList.drop pc = b :: t) : (Jvm.ClassFile.Reader.u1 : dR Nat) C pc = .ok (b.toNat, pc + 1) ∧ C.data.toList.drop (pc + 1) = t := by
  have hl : pc < C.data.toList.length := by
    have q := congrArg List.length hw
    rw [List.length_drop, List.length_cons] at q
    omega
  rw [List.drop_eq_getElem_cons hl] at hw
  obtain ⟨e1, e2⟩ := List.cons.inj hw
  have h3 : pc < C.size := hl
  have e : C[pc]'h3 = b := e1
  exact ⟨by rw [dl_u1k C pc h3, e], e2⟩
theorem dVal_s {C : ByteArray} {pc : Nat} {t : List UInt8} {y : dZ} {z : Jvm.ClassFile.Instr × Nat} (ht : C.data.toList.drop (pc + 1) = t) (h : dVal y t = some z) : dEx y C (pc + 1) = .ok (z.1, pc + z.2) := by
  obtain ⟨k, f, g, q⟩ := y
  match k, h with
  | 0, h =>
    have h : some (f, 1) = some z := h
    cases h
    rfl
  | 1, h =>
    cases t with
    | nil => cases h
    | cons x t =>
      have h : some (g x.toNat, 2) = some z := h
      cases h
      show Except.bind ((Jvm.ClassFile.Reader.u1 : dR Nat) C (pc + 1)) (fun w => Except.ok (g w.1, w.2)) = _
      rw [(d_at ht).1]
      rfl
  | 2, h =>
    cases t with
    | nil => cases h
    | cons x t =>
      have h : some (q (Jvm.ClassFile.Reader.signed 8 x.toNat), 2) = some z := h
      cases h
      show Except.bind (Except.bind ((Jvm.ClassFile.Reader.u1 : dR Nat) C (pc + 1)) (fun w => Except.ok (Jvm.ClassFile.Reader.signed 8 w.1, w.2))) (fun w => Except.ok (q w.1, w.2)) = _
      rw [(d_at ht).1]
      rfl
  | 3, h =>
    match t, ht, h with
    | [], _, h => cases h
    | [_], _, h => cases h
    | x :: y :: t, ht, h =>
      have h : some (g (x.toNat * 256 + y.toNat), 3) = some z := h
      cases h
      show Except.bind (Except.bind ((Jvm.ClassFile.Reader.u1 : dR Nat) C (pc + 1)) (fun w => Except.bind ((Jvm.ClassFile.Reader.u1 : dR Nat) C w.2) (fun v => Except.ok (w.1 * 256 + v.1, v.2)))) (fun w => Except.ok (g w.1, w.2)) = _
      rw [(d_at ht).1]
      show Except.bind (Except.bind ((Jvm.ClassFile.Reader.u1 : dR Nat) C (pc + 1 + 1)) (fun v => Except.ok (x.toNat * 256 + v.1, v.2))) (fun w => Except.ok (g w.1, w.2)) = _
      rw [(d_at (d_at ht).2).1]
      rfl
  | 4, h =>
    match t, ht, h with
    | [], _, h => cases h
    | [_], _, h => cases h
    | x :: y :: t, ht, h =>
      have h : some (q (Jvm.ClassFile.Reader.signed 16 (x.toNat * 256 + y.toNat)), 3) = some z := h
      cases h
      show Except.bind (Except.bind (Except.bind ((Jvm.ClassFile.Reader.u1 : dR Nat) C (pc + 1)) (fun w => Except.bind ((Jvm.ClassFile.Reader.u1 : dR Nat) C w.2) (fun v => Except.ok (w.1 * 256 + v.1, v.2)))) (fun w => Except.ok (Jvm.ClassFile.Reader.signed 16 w.1, w.2))) (fun w => Except.ok (q w.1, w.2)) = _
      rw [(d_at ht).1]
      show Except.bind (Except.bind (Except.bind ((Jvm.ClassFile.Reader.u1 : dR Nat) C (pc + 1 + 1)) (fun v => Except.ok (x.toNat * 256 + v.1, v.2))) (fun w => Except.ok (Jvm.ClassFile.Reader.signed 16 w.1, w.2))) (fun w => Except.ok (q w.1, w.2)) = _
      rw [(d_at (d_at ht).2).1]
      rfl
  | n + 5, h =>
    have h : (none : Option (Jvm.ClassFile.Instr × Nat)) = some z := h
    cases h
noncomputable def dFast : List UInt8 → Option (Jvm.ClassFile.Instr × Nat)
  | b :: t => match dTab b.toNat with
    | some y => dVal y t
    | none => none
  | [] => none
theorem dFast_s {C : ByteArray} {pc : Nat} {w : List UInt8} {z : Jvm.ClassFile.Instr × Nat} (hw : C.data.toList.drop pc = w) (h : dFast w = some z) : decode C pc = .ok z := by
  cases w with
  | nil => cases h
  | cons b t =>
    obtain ⟨u1, u2⟩ := d_at hw
    have h : (match dTab b.toNat with
      | some y => dVal y t
      | none => none) = some z := h
    cases hT : dTab b.toNat with
    | none =>
      rw [hT] at h
      cases h
    | some y =>
      rw [hT] at h
      have v := dVal_s u2 h
      show Except.bind ((Jvm.ClassFile.Decoder.instr pc : dR _) C pc) (fun z => Except.ok (z.1, z.2 - pc)) = _
      rw [(dFF pc).2]
      show Except.bind (Except.bind ((Jvm.ClassFile.Reader.u1 : dR Nat) C pc) (fun z => (dFF pc).1 z.1 C z.2)) (fun z => Except.ok (z.1, z.2 - pc)) = _
      rw [u1]
      show Except.bind ((dFF pc).1 b.toNat C (pc + 1)) (fun z => Except.ok (z.1, z.2 - pc)) = _
      rw [dTab_s hT pc, v]
      show (Except.ok (z.1, pc + z.2 - pc) : Except Jvm.ClassFile.DecodeError (Jvm.ClassFile.Instr × Nat)) = .ok z
      rw [Nat.add_sub_cancel_left]
/-! the checks of blocks, by that -/
noncomputable def dDec (cc : ByteArray) (pc : Nat) (w : List UInt8) : Except Jvm.ClassFile.DecodeError (Jvm.ClassFile.Instr × Nat) := match dFast w with
  | some z => .ok z
  | none => bif dHd w then decode (dB w) 0 else decode cc pc
theorem dDec_s {cc : ByteArray} {pc : Nat} {w : List UInt8} (hw : cc.data.toList.drop pc = w) {z : Jvm.ClassFile.Instr × Nat} (h : dDec cc pc w = .ok z) : decode cc pc = .ok z := by
  unfold dDec at h
  cases hf : dFast w with
  | some y =>
    rw [hf] at h
    have h : (Except.ok y : Except Jvm.ClassFile.DecodeError (Jvm.ClassFile.Instr × Nat)) = .ok z := h
    cases h
    exact dFast_s hw hf
  | none =>
    rw [hf] at h
    have h : (bif dHd w then decode (dB w) 0 else decode cc pc) = .ok z := h
    cases hd : dHd w with
    | true =>
      rw [hd] at h
      exact d_loc hw hd h
    | false =>
      rw [hd] at h
      exact h
noncomputable def aCkF (own : String) (ini : Bool) (cc : ByteArray) (spc : List Nat) (b : Nat) : Nat → List UInt8 → List aI → Bool
  | pc, _, [] => decide (spc[b + 1]? = some pc)
  | pc, w, i :: r => match dDec cc pc w with
    | .ok (real, len) => aOk own ini spc b pc real len i && (if aKd i = 4 then r.isEmpty else aCkF own ini cc spc b (pc + len) (w.drop len) r)
    | .error _ => false
theorem aCkF_s {own : String} {ini : Bool} {cc : ByteArray} {spc : List Nat} {b : Nat} : ∀ {r : List aI} {pc : Nat} {w : List UInt8}, cc.data.toList.drop pc = w → aCkF own ini cc spc b pc w r = true → aCk own ini cc spc b pc r = true := by
  intro r
  induction r with
  | nil => intro pc w _ h; exact h
  | cons i r ih =>
    intro pc w hw h
    unfold aCkF at h
    unfold aCk
    cases hd : dDec cc pc w with
    | error e =>
      rw [hd] at h
      cases h
    | ok z =>
      rw [dDec_s hw hd]
      rw [hd] at h
      obtain ⟨real, len⟩ := z
      dsimp only at h ⊢
      rw [Bool.and_eq_true] at h ⊢
      refine ⟨h.1, ?_⟩
      have h2 := h.2
      by_cases k : aKd i = 4
      · rw [if_pos k] at h2 ⊢
        exact h2
      · rw [if_neg k] at h2 ⊢
        exact ih (by rw [← hw, List.drop_drop]) h2
noncomputable def aCkLF (own : String) (ini : Bool) (cc : ByteArray) (spc : List Nat) : Nat → List (List aI) → Bool
  | _, [] => true
  | b, l :: r => (match spc[b]? with
    | some pc => aCkF own ini cc spc b pc (cc.data.toList.drop pc) l
    | none => false) && aCkLF own ini cc spc (b + 1) r
theorem aCkLF_s {own : String} {ini : Bool} {cc : ByteArray} {spc : List Nat} : ∀ {C : List (List aI)} {b : Nat}, aCkLF own ini cc spc b C = true → aCkL own ini cc spc b C = true := by
  intro C
  induction C with
  | nil => intro b _; rfl
  | cons l r ih =>
    intro b h
    unfold aCkLF at h
    unfold aCkL
    rw [Bool.and_eq_true] at h ⊢
    refine ⟨?_, ih h.2⟩
    have h1 := h.1
    cases hs : spc[b]? with
    | none =>
      rw [hs] at h1
      cases h1
    | some pc =>
      rw [hs] at h1
      exact aCkF_s rfl h1
