/-! lines of the draft -/
def gLn (M : Nat → Nat → Int32) (l : Nat) : Prop := 0 ≤ (M 206 (64 + l)).toInt ∧ (M 206 (64 + l)).toInt ≤ (M 207 (64 + l)).toInt ∧ (M 207 (64 + l)).toInt ≤ (M 208 (64 + l)).toInt ∧ (M 208 (64 + l)).toInt ≤ (M 188 38).toInt ∧
  gCode (M 210) (M 211) (2000 + (M 206 (64 + l)).toInt.toNat) (2000 + (M 207 (64 + l)).toInt.toNat) ∧ ((M 207 (64 + l)).toInt < (M 208 (64 + l)).toInt → gCode (M 210) (M 211) (2000 + (M 207 (64 + l)).toInt.toNat) (2000 + (M 208 (64 + l)).toInt.toNat))
theorem gLn_eq {M M' : Nat → Nat → Int32} {l : Nat} (h : gLn M l) (h0 : 0 ≤ (M 188 38).toInt) (h1 : M' 206 (64 + l) = M 206 (64 + l)) (h2 : M' 207 (64 + l) = M 207 (64 + l)) (h3 : M' 208 (64 + l) = M 208 (64 + l)) (h4 : (M 188 38).toInt ≤ (M' 188 38).toInt) (h5 : ∀ i, i < 2000 + gMn M → M' 210 i = M 210 i ∧ M' 211 i = M 211 i) : gLn M' l := by
  obtain ⟨a1, a2, a3, a4, a5, a6⟩ := h
  unfold gLn
  rw [h1, h2, h3]
  have hm : gMn M = (M 188 38).toInt.toNat := rfl
  exact ⟨a1, a2, a3, by omega, gCode_eq (fun i _ q => h5 i (by omega)) a5, fun z => gCode_eq (fun i _ q => h5 i (by omega)) (a6 z)⟩
/-- what reading a law may change -/
def gLf (M M' : Nat → Nat → Int32) : Prop := (∀ a, a ≠ 188 → a ≠ 210 → a ≠ 211 → a ≠ 212 → a ≠ 205 → a ≠ 206 → a ≠ 207 → a ≠ 208 → M' a = M a) ∧ (∀ i, i < 2000 → M' 210 i = M 210 i ∧ M' 211 i = M 211 i) ∧ (∀ l, l < 64 → M' 205 l = M 205 l ∧ M' 206 l = M 206 l ∧ M' 207 l = M 207 l ∧ M' 208 l = M 208 l) ∧ (∀ f, f ≠ 25 → f ≠ 26 → f ≠ 27 → f ≠ 28 → f ≠ 38 → f ≠ 42 → f ≠ 43 → f ≠ 39 → f ≠ 41 → M' 188 f = M 188 f)
theorem gLf.refl {M : Nat → Nat → Int32} : gLf M M := ⟨fun _ _ _ _ _ _ _ _ _ => rfl, fun _ _ => ⟨rfl, rfl⟩, fun _ _ => ⟨rfl, rfl, rfl, rfl⟩, fun _ _ _ _ _ _ _ _ _ _ => rfl⟩
theorem gLf.trans {M M1 M2 : Nat → Nat → Int32} (h : gLf M M1) (h' : gLf M1 M2) : gLf M M2 := by
  refine ⟨fun a a1 a2 a3 a4 a5 a6 a7 a8 => (h'.1 a a1 a2 a3 a4 a5 a6 a7 a8).trans (h.1 a a1 a2 a3 a4 a5 a6 a7 a8), fun i hi => ⟨(h'.2.1 i hi).1.trans (h.2.1 i hi).1, (h'.2.1 i hi).2.trans (h.2.1 i hi).2⟩, fun l hl => ?_, fun f f1 f2 f3 f4 f5 f6 f7 f8 f9 => (h'.2.2.2 f f1 f2 f3 f4 f5 f6 f7 f8 f9).trans (h.2.2.2 f f1 f2 f3 f4 f5 f6 f7 f8 f9)⟩
  obtain ⟨a1, a2, a3, a4⟩ := h.2.2.1 l hl
  obtain ⟨b1, b2, b3, b4⟩ := h'.2.2.1 l hl
  exact ⟨b1.trans a1, b2.trans a2, b3.trans a3, b4.trans a4⟩
theorem gFw.lf {M M' : Nat → Nat → Int32} (h : gFw M M') : gLf M M' := ⟨fun a a1 a2 a3 a4 _ _ _ _ => h.1 a a1 a2 a3 a4, h.2.1, fun l _ => by rw [h.1 205 (by decide) (by decide) (by decide) (by decide), h.1 206 (by decide) (by decide) (by decide) (by decide), h.1 207 (by decide) (by decide) (by decide) (by decide), h.1 208 (by decide) (by decide) (by decide) (by decide)]; exact ⟨rfl, rfl, rfl, rfl⟩, h.2.2⟩
theorem gLf_put {M : Nat → Nat → Int32} {a j : Nat} {x : Int32} (h : a = 205 ∨ a = 206 ∨ a = 207 ∨ a = 208) (hj : 64 ≤ j) : gLf M (aPut M a j x) := by
  refine ⟨fun b b1 b2 b3 b4 b5 b6 b7 b8 => aPut_r (by omega), fun i _ => ⟨aPut_o (by omega), aPut_o (by omega)⟩, fun l hl => ?_, fun f _ _ _ _ _ _ _ _ _ => aPut_o (by omega)⟩
  have e : ∀ b, aPut M a j x b l = M b l := fun b => by
    unfold aPut
    by_cases q : b = a
    · rw [if_pos q, if_neg (by omega)]
    · rw [if_neg q]
  exact ⟨e 205, e 206, e 207, e 208⟩
/-- a line that has been read: from f to s, from s on -/
theorem gCode_of {M M' : Nat → Nat → Int32} (h : gEff M M' 0 1) : gCode (M' 210) (M' 211) (2000 + gMn M) (2000 + gMn M') := by
  obtain ⟨h1, h2, h3⟩ := h
  obtain ⟨D', d1, d2⟩ := h3 (gMn M) 0 (Nat.le_refl _) (Nat.le_refl _) (by rw [Nat.sub_self]; rfl)
  unfold gCode
  rw [show 2000 + gMn M' - (2000 + gMn M) = gMn M' - gMn M by omega, d1, show D' = 1 by omega]
/-- between the parts of a law -/
def gLw (M0 M : Nat → Nat → Int32) : Prop := gTs M ∧ gLf M0 M ∧ 0 ≤ (M 188 38).toInt ∧ (M 188 38).toInt ≤ 500 ∧ 0 ≤ (M 188 39).toInt ∧ (M 188 39).toInt ≤ 8 ∧ 0 ≤ (M 188 41).toInt ∧ (M 188 41).toInt ≤ 40
theorem gLw_put {M0 M : Nat → Nat → Int32} {a j : Nat} {x : Int32} (h : gLw M0 M) (ha : a = 205 ∨ a = 206 ∨ a = 207 ∨ a = 208) (hj : 64 ≤ j) : gLw M0 (aPut M a j x) := by
  obtain ⟨h1, h2, h3, h4, h5, h6, h7, h8⟩ := h
  have e : ∀ f, aPut M a j x 188 f = M 188 f := fun f => aPut_o (by omega)
  unfold gLw
  rw [e, e, e]
  exact ⟨gTs_put h1 (by omega) (fun q => by omega), h2.trans (gLf_put ha hj), h3, h4, h5, h6, h7, h8⟩
theorem gLw_fr {M0 M M' : Nat → Nat → Int32} (h : gLw M0 M) (hT : gTs M') (hf : gFr M M') (h0 : 0 ≤ (M' 188 38).toInt) (h1 : (M' 188 38).toInt ≤ 500) : gLw M0 M' := by
  obtain ⟨_, h2, h3, h4, h5, h6, h7, h8⟩ := h
  refine ⟨hT, h2.trans hf.fw.lf, h0, h1, ?_⟩
  rw [hf.2.2 39 (by decide) (by decide) (by decide) (by decide) (by decide) (by decide) (by decide), hf.2.2 41 (by decide) (by decide) (by decide) (by decide) (by decide) (by decide) (by decide)]
  exact ⟨h5, h6, h7, h8⟩
theorem gLw_rd {M0 M M' : Nat → Nat → Int32} (h : gLw M0 M) (hr : gRd M M') : gLw M0 M' := by
  obtain ⟨t1, t2, t3, t4, t5, t6⟩ := gRd_s hr h.1.1
  exact gLw_fr h t1 t2 (by rw [t3]; exact h.2.2.1) (by rw [t3]; exact h.2.2.2.1)
theorem gLw_fa {M0 M : Nat → Nat → Int32} {c : Int} (h : gLw M0 M) : gLw M0 (gFa M c) := by
  obtain ⟨t1, t2, t3, t4, t5⟩ := gFa_s (c := c) h.1
  exact gLw_fr h t1 t2 (by rw [t3]; exact h.2.2.1) (by rw [t3]; exact h.2.2.2.1)
theorem gLw_fw {M0 M M' : Nat → Nat → Int32} (h : gLw M0 M) (hT : gTs M') (hf : gFw M M') (h0 : 0 ≤ (M' 188 38).toInt ∧ (M' 188 38).toInt ≤ 500 ∧ 0 ≤ (M' 188 39).toInt ∧ (M' 188 39).toInt ≤ 8 ∧ 0 ≤ (M' 188 41).toInt ∧ (M' 188 41).toInt ≤ 40) : gLw M0 M' :=
  ⟨hT, h.2.1.trans hf.lf, h0⟩
/-- the lines that have been read -/
def gLs (n : Nat) (M : Nat → Nat → Int32) : Prop := ∀ l, l < n → gLn M l
theorem gLs_put {M : Nat → Nat → Int32} {a j n : Nat} {x : Int32} (h : gLs n M) (h0 : 0 ≤ (M 188 38).toInt) (ha : a = 205 ∨ a = 206 ∨ a = 207 ∨ a = 208) (hj : j = 64 + n) : gLs n (aPut M a j x) := by
  intro l hl
  have e : ∀ b, aPut M a j x b (64 + l) = M b (64 + l) := fun b => by
    unfold aPut
    by_cases q : b = a
    · rw [if_pos q, if_neg (by omega)]
    · rw [if_neg q]
  exact gLn_eq (h l hl) h0 (e 206) (e 207) (e 208) (by rw [aPut_o (by omega)]; exact Int.le_refl _) (fun i _ => ⟨aPut_o (by omega), aPut_o (by omega)⟩)
theorem gLs_ef {M M' : Nat → Nat → Int32} {n p : Nat} {e : Int} (h : gLs n M) (h0 : 0 ≤ (M 188 38).toInt) (h2 : 0 ≤ (M' 188 38).toInt) (hf : ∀ a, a = 206 ∨ a = 207 ∨ a = 208 → M' a = M a) (he : gEff M M' p e) : gLs n M' := by
  intro l hl
  have hm : gMn M ≤ gMn M' := he.1
  unfold gMn at hm
  exact gLn_eq (h l hl) h0 (by rw [hf 206 (by omega)]) (by rw [hf 207 (by omega)]) (by rw [hf 208 (by omega)]) (by omega) he.2.1
theorem gLs_rd {M M' : Nat → Nat → Int32} {n : Nat} (h : gLs n M) (h0 : 0 ≤ (M 188 38).toInt) (hp : gPre M) (hr : gRd M M') : gLs n M' := by
  obtain ⟨t1, t2, t3, t4, t5, t6⟩ := gRd_s hr hp
  exact gLs_ef h h0 (by rw [t3]; exact h0) (fun a ha => t2.1 a (by omega) (by omega) (by omega)) (gEff.of_eq t3 t4 t5)
/-- the line that is being read: so far -/
def gLc (M : Nat → Nat → Int32) (n : Nat) (f s t : Int) : Prop := M 206 (64 + n) = Int32.ofInt f ∧ 0 ≤ f ∧ f ≤ s ∧ s ≤ t ∧ t ≤ (M 188 38).toInt ∧ gCode (M 210) (M 211) (2000 + f.toNat) (2000 + s.toNat) ∧ (s < t → gCode (M 210) (M 211) (2000 + s.toNat) (2000 + t.toNat))
theorem gLc_eq {M M' : Nat → Nat → Int32} {n : Nat} {f s t : Int} (h : gLc M n f s t) (h1 : M' 206 (64 + n) = M 206 (64 + n)) (h2 : (M 188 38).toInt ≤ (M' 188 38).toInt) (h3 : ∀ i, i < 2000 + gMn M → M' 210 i = M 210 i ∧ M' 211 i = M 211 i) : gLc M' n f s t := by
  obtain ⟨a1, a2, a3, a4, a5, a6, a7⟩ := h
  have hm : gMn M = (M 188 38).toInt.toNat := rfl
  exact ⟨h1.trans a1, a2, a3, a4, by omega, gCode_eq (fun i _ q => h3 i (by omega)) a6, fun z => gCode_eq (fun i _ q => h3 i (by omega)) (a7 z)⟩
theorem gLc_put {M : Nat → Nat → Int32} {n a j : Nat} {x : Int32} {f s t : Int} (h : gLc M n f s t) (ha : a = 207 ∨ a = 208) : gLc (aPut M a j x) n f s t :=
  gLc_eq h (by rw [aPut_o (by omega)]) (by rw [aPut_o (by omega)]; exact Int.le_refl _) (fun i _ => ⟨aPut_o (by omega), aPut_o (by omega)⟩)
theorem gLc_rd {M M' : Nat → Nat → Int32} {n : Nat} {f s t : Int} (h : gLc M n f s t) (hp : gPre M) (hr : gRd M M') : gLc M' n f s t := by
  obtain ⟨t1, t2, t3, t4, t5, t6⟩ := gRd_s hr hp
  exact gLc_eq h (by rw [t2.1 206 (by decide) (by decide) (by decide)]) (by rw [t3]; exact Int.le_refl _) (fun i _ => by rw [t4, t5]; exact ⟨rfl, rfl⟩)
/-- its sum is read -/
theorem gLc_su {M M' : Nat → Nat → Int32} {n : Nat} (h1 : M 206 (64 + n) = Int32.ofInt (M 188 38).toInt) (h0 : 0 ≤ (M 188 38).toInt) (hf : M' 206 = M 206) (h2 : 0 ≤ (M' 188 38).toInt) (he : gEff M M' 0 1) : gLc M' n (M 188 38).toInt (M' 188 38).toInt (M' 188 38).toInt := by
  have hm : gMn M ≤ gMn M' := he.1
  unfold gMn at hm
  exact ⟨by rw [hf]; exact h1, h0, by omega, Int.le_refl _, Int.le_refl _, gCode_of he, fun z => absurd z (by omega)⟩
/-- its claim is read -/
theorem gLc_cl {M M' : Nat → Nat → Int32} {n : Nat} {f s : Int} (h : gLc M n f s s) (hs : s = (M 188 38).toInt) (hf : M' 206 = M 206) (h2 : 0 ≤ (M' 188 38).toInt) (he : gEff M M' 0 1) : gLc M' n f s (M' 188 38).toInt := by
  have hm : gMn M ≤ gMn M' := he.1
  unfold gMn at hm
  obtain ⟨a1, a2, a3, a4, a5, a6, a7⟩ := gLc_eq h (by rw [hf]) (by omega) he.2.1
  exact ⟨a1, a2, a3, by omega, Int.le_refl _, a6, fun _ => by rw [hs]; exact gCode_of he⟩
theorem gLc_ln {M : Nat → Nat → Int32} {n : Nat} {f s t : Int} (h : gLc M n f s t) (h1 : M 207 (64 + n) = Int32.ofInt s) (h2 : M 208 (64 + n) = Int32.ofInt t) (h3 : (M 188 38).toInt ≤ 500) : gLn M n := by
  obtain ⟨a1, a2, a3, a4, a5, a6, a7⟩ := h
  unfold gLn
  rw [h1, h2, a1, iR (by omega) (by omega), iR (by omega) (by omega), iR (by omega) (by omega)]
  exact ⟨a2, a3, a4, a5, a6, a7⟩
theorem gLs_s {M : Nat → Nat → Int32} {n : Nat} (h : gLs n M) (h1 : gLn M n) : gLs (n + 1) M := fun l hl => by
  by_cases q : l < n
  · exact h l q
  · rw [show l = n by omega]; exact h1
