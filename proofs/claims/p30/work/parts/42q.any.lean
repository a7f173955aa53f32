/-! the reference's claims: what waits -/
/-- what waits, so many: how many not and (, how many and and or, what lies on top (0 nothing or (, 1 or, 2 and, 3 not), how many ( -/
def gSk (c : Nat → Int32) : Nat → Option (Nat × Nat × Nat × Nat)
  | 0 => some (0, 0, 0, 0)
  | n + 1 => match gSk c n with
    | none => none
    | some q => if c n = 9 then some (q.1 + 1, q.2.1, 3, q.2.2.2) else if c n = 12 then some (q.1 + 1, q.2.1, 0, q.2.2.2 + 1) else if c n = 11 ∧ q.2.2.1 = 0 then some (q.1, q.2.1 + 1, 1, q.2.2.2) else if c n = 10 ∧ (q.2.2.1 = 0 ∨ q.2.2.1 = 1) then some (q.1, q.2.1 + 1, 2, q.2.2.2) else none
theorem gSk_eq {c c' : Nat → Int32} : ∀ {n : Nat}, (∀ i, i < n → c' i = c i) → gSk c' n = gSk c n := by
  intro n
  induction n with
  | zero => intro _; rfl
  | succ n ih =>
    intro h
    unfold gSk
    rw [ih (fun i hi => h i (by omega)), h n (by omega)]
theorem gSk_up {c : Nat → Int32} {n : Nat} {q : Nat × Nat × Nat × Nat} (h : gSk c n = some q) : gSk c (n + 1) = if c n = 9 then some (q.1 + 1, q.2.1, 3, q.2.2.2) else if c n = 12 then some (q.1 + 1, q.2.1, 0, q.2.2.2 + 1) else if c n = 11 ∧ q.2.2.1 = 0 then some (q.1, q.2.1 + 1, 1, q.2.2.2) else if c n = 10 ∧ (q.2.2.1 = 0 ∨ q.2.2.1 = 1) then some (q.1, q.2.1 + 1, 2, q.2.2.2) else none := by
  conv => lhs; unfold gSk
  rw [h]
/-- what lies on top -/
theorem gSk_dn {c : Nat → Int32} {n o b t r : Nat} (h : gSk c (n + 1) = some (o, b, t, r)) : ∃ o1 b1 t1 r1, gSk c n = some (o1, b1, t1, r1) ∧ ((c n = 9 ∧ o = o1 + 1 ∧ b = b1 ∧ t = 3 ∧ r = r1) ∨ (c n = 12 ∧ o = o1 + 1 ∧ b = b1 ∧ t = 0 ∧ r = r1 + 1) ∨ (c n = 11 ∧ t1 = 0 ∧ o = o1 ∧ b = b1 + 1 ∧ t = 1 ∧ r = r1) ∨ (c n = 10 ∧ (t1 = 0 ∨ t1 = 1) ∧ o = o1 ∧ b = b1 + 1 ∧ t = 2 ∧ r = r1)) := by
  cases q : gSk c n with
  | none =>
    unfold gSk at h
    rw [q] at h
    cases h
  | some v =>
    obtain ⟨o1, b1, t1, r1⟩ := v
    rw [gSk_up q] at h
    refine ⟨o1, b1, t1, r1, rfl, ?_⟩
    by_cases c1 : c n = 9
    · rw [if_pos c1] at h
      cases h
      exact Or.inl ⟨c1, rfl, rfl, rfl, rfl⟩
    rw [if_neg c1] at h
    by_cases c2 : c n = 12
    · rw [if_pos c2] at h
      cases h
      exact Or.inr (Or.inl ⟨c2, rfl, rfl, rfl, rfl⟩)
    rw [if_neg c2] at h
    by_cases c3 : c n = 11 ∧ t1 = 0
    · rw [if_pos c3] at h
      cases h
      exact Or.inr (Or.inr (Or.inl ⟨c3.1, c3.2, rfl, rfl, rfl, rfl⟩))
    rw [if_neg c3] at h
    by_cases c4 : c n = 10 ∧ (t1 = 0 ∨ t1 = 1)
    · rw [if_pos c4] at h
      cases h
      exact Or.inr (Or.inr (Or.inr ⟨c4.1, c4.2, rfl, rfl, rfl, rfl⟩))
    rw [if_neg c4] at h
    cases h
theorem gSk_le {c : Nat → Int32} {n o b t r : Nat} (h : gSk c n = some (o, b, t, r)) : n + (if t = 3 then 3 else 0) ≤ 3 * o + t ∧ t ≤ 3 ∧ r ≤ o ∧ (n = 0 → o = 0 ∧ b = 0 ∧ t = 0 ∧ r = 0) ∧ b ≤ n := by
  induction n generalizing o b t r with
  | zero =>
    unfold gSk at h
    cases h
    exact ⟨by decide, by decide, by decide, fun _ => ⟨rfl, rfl, rfl, rfl⟩, by decide⟩
  | succ n ih =>
    obtain ⟨o1, b1, t1, r1, h1, h2⟩ := gSk_dn h
    obtain ⟨i1, i2, i3, i4, i5⟩ := ih h1
    have hi : t1 = 3 ∨ ¬ t1 = 3 := by omega
    rcases hi with hi | hi
    · rw [if_pos hi] at i1
      rcases h2 with ⟨_, a2, a3, a4, a5⟩ | ⟨_, a2, a3, a4, a5⟩ | ⟨_, a1, a2, a3, a4, a5⟩ | ⟨_, a1, a2, a3, a4, a5⟩
      · rw [if_pos a4]; exact ⟨by omega, by omega, by omega, fun z => by omega, by omega⟩
      · rw [if_neg (by omega)]; exact ⟨by omega, by omega, by omega, fun z => by omega, by omega⟩
      · omega
      · omega
    · rw [if_neg hi] at i1
      rcases h2 with ⟨_, a2, a3, a4, a5⟩ | ⟨_, a2, a3, a4, a5⟩ | ⟨_, a1, a2, a3, a4, a5⟩ | ⟨_, a1, a2, a3, a4, a5⟩
      · rw [if_pos a4]; exact ⟨by omega, by omega, by omega, fun z => by omega, by omega⟩
      · rw [if_neg (by omega)]; exact ⟨by omega, by omega, by omega, fun z => by omega, by omega⟩
      · rw [if_neg (by omega)]; exact ⟨by omega, by omega, by omega, fun z => by omega, by omega⟩
      · rw [if_neg (by omega)]; exact ⟨by omega, by omega, by omega, fun z => by omega, by omega⟩
/-- what may change beside that: how many are open, what waits -/
def gFw (M M' : Nat → Nat → Int32) : Prop := (∀ a, a ≠ 188 → a ≠ 210 → a ≠ 211 → a ≠ 212 → M' a = M a) ∧ (∀ i, i < 2000 → M' 210 i = M 210 i ∧ M' 211 i = M 211 i) ∧ (∀ f, f ≠ 25 → f ≠ 26 → f ≠ 27 → f ≠ 28 → f ≠ 38 → f ≠ 42 → f ≠ 43 → f ≠ 39 → f ≠ 41 → M' 188 f = M 188 f)
theorem gFw.refl {M : Nat → Nat → Int32} : gFw M M := ⟨fun _ _ _ _ _ => rfl, fun _ _ => ⟨rfl, rfl⟩, fun _ _ _ _ _ _ _ _ _ _ => rfl⟩
theorem gFw.trans {M M1 M2 : Nat → Nat → Int32} (h : gFw M M1) (h' : gFw M1 M2) : gFw M M2 :=
  ⟨fun a a1 a2 a3 a4 => (h'.1 a a1 a2 a3 a4).trans (h.1 a a1 a2 a3 a4), fun i hi => ⟨(h'.2.1 i hi).1.trans (h.2.1 i hi).1, (h'.2.1 i hi).2.trans (h.2.1 i hi).2⟩, fun f f1 f2 f3 f4 f5 f6 f7 f8 f9 => (h'.2.2 f f1 f2 f3 f4 f5 f6 f7 f8 f9).trans (h.2.2 f f1 f2 f3 f4 f5 f6 f7 f8 f9)⟩
theorem gFr.fw {M M' : Nat → Nat → Int32} (h : gFr M M') : gFw M M' := ⟨fun a a1 a2 a3 _ => h.1 a a1 a2 a3, h.2.1, fun f f1 f2 f3 f4 f5 f6 f7 _ _ => h.2.2 f f1 f2 f3 f4 f5 f6 f7⟩
theorem gFw_put {M : Nat → Nat → Int32} {a j : Nat} {x : Int32} (h : a = 212 ∨ a = 188 ∧ (j = 39 ∨ j = 41)) : gFw M (aPut M a j x) := by
  refine ⟨fun b b1 b2 b3 b4 => aPut_r (by omega), fun i _ => ⟨aPut_o (by omega), aPut_o (by omega)⟩, fun f f1 f2 f3 f4 f5 f6 f7 f8 f9 => ?_⟩
  by_cases q : a = 188
  · subst q; exact aPut_f (by omega)
  · exact aPut_o (by omega)
/-- the state of a claim that is being read; e numbers lie on the stack -/
def gWu (M0 M : Nat → Nat → Int32) (n o b t r : Nat) (e : Int) : Prop := gTs M ∧ gFw M0 M ∧ (M 188 41).toInt = n ∧ (M 188 39).toInt = o ∧ o ≤ 8 ∧ gSk (M 212) n = some (o, b, t, r) ∧ 0 ≤ (M 188 38).toInt ∧ gEff M0 M 0 e
theorem gWu_rd {M0 M M' : Nat → Nat → Int32} {n o b t r : Nat} {e : Int} (h : gWu M0 M n o b t r e) (he : 0 ≤ e) (hr : gRd M M') : gWu M0 M' n o b t r e ∧ M' 188 38 = M 188 38 ∧ (M 188 25).toInt ≤ (M' 188 26).toInt ∧ M' 188 24 = M 188 24 := by
  obtain ⟨h1, h2, h3, h4, h5, h6, h7, h8⟩ := h
  obtain ⟨t1, t2, t3, t4, t5, t6⟩ := gRd_s hr h1.1
  refine ⟨⟨t1, h2.trans t2.fw, ?_, ?_, h5, ?_, by rw [t3]; exact h7, ?_⟩, t3, t6, t2.2.2 24 (by decide) (by decide) (by decide) (by decide) (by decide) (by decide) (by decide)⟩
  · rw [t2.2.2 41 (by decide) (by decide) (by decide) (by decide) (by decide) (by decide) (by decide)]; exact h3
  · rw [t2.2.2 39 (by decide) (by decide) (by decide) (by decide) (by decide) (by decide) (by decide)]; exact h4
  · rw [t2.1 212 (by decide) (by decide) (by decide)]; exact h6
  · have := h8.trans (gEff.of_eq t3 t4 t5) (by omega)
    rwa [Int.add_zero] at this
/-- what waits -/
def gWa (M : Nat → Nat → Int32) (w : Int) : Nat → Nat → Int32 := aPut (aPut M 212 ((M 188 41).toInt).toNat (Int32.ofInt w)) 188 41 (Int32.ofInt ((M 188 41).toInt + 1))
theorem gWa_f {M : Nat → Nat → Int32} {w : Int} {f : Nat} (hf : f ≠ 41) : gWa M w 188 f = M 188 f := by
  unfold gWa
  rw [aPut_f hf, aPut_o (by decide)]
theorem gEff.put {M0 M : Nat → Nat → Int32} {p a j : Nat} {e : Int} {x : Int32} (h : gEff M0 M p e) (hp : 0 ≤ (p : Int) + e) (h1 : a ≠ 210) (h2 : a ≠ 211) (h3 : a = 188 → j ≠ 38) : gEff M0 (aPut M a j x) p e := by
  have := h.trans (gEff.of_eq (M' := aPut M a j x) (by
    by_cases q : a = 188
    · subst q; exact aPut_f (fun z => h3 rfl z.symm)
    · exact aPut_o (fun z => q z.symm)) (aPut_r (fun z => h1 z.symm)) (aPut_r (fun z => h2 z.symm))) (by omega)
  rwa [Int.add_zero] at this
/-- an and, an or waits -/
theorem gWu_pb {M0 M : Nat → Nat → Int32} {n o b t r : Nat} {e w : Int} (h : gWu M0 M n o b t r e) (he : 0 ≤ e) (hn : n < 39) {t' : Nat} (hs : gSk (gWa M w 212) (n + 1) = some (o, b + 1, t', r)) : gWu M0 (gWa M w) (n + 1) o (b + 1) t' r e := by
  obtain ⟨h1, h2, h3, h4, h5, h6, h7, h8⟩ := h
  refine ⟨?_, ?_, ?_, by rw [gWa_f (by decide)]; exact h4, h5, hs, by rw [gWa_f (by decide)]; exact h7, ?_⟩
  · exact gTs_put (gTs_put h1 (by decide) (fun q => absurd q (by decide))) (by decide) (fun _ => by decide)
  · exact h2.trans ((gFw_put (Or.inl rfl)).trans (gFw_put (Or.inr ⟨rfl, Or.inr rfl⟩)))
  · unfold gWa
    rw [aPut_e, iR (by omega) (by omega), h3]
    omega
  · exact (h8.put (by omega) (by decide) (by decide) (fun q => absurd q (by decide))).put (by omega) (by decide) (by decide) (fun _ => by decide)
theorem gWa_sk {M : Nat → Nat → Int32} {n : Nat} {w : Int} (h : (M 188 41).toInt = n) : gSk (gWa M w 212) n = gSk (M 212) n ∧ gWa M w 212 n = Int32.ofInt w := by
  unfold gWa
  rw [aPut_r (by decide), h]
  refine ⟨gSk_eq (fun i hi => aPut_f (by omega)), ?_⟩
  show aPut M 212 n (Int32.ofInt w) 212 n = _
  exact aPut_e
/-- a not, a ( is open -/
theorem gWu_po {M0 M : Nat → Nat → Int32} {n o b t r : Nat} {e w : Int} (h : gWu M0 M n o b t r e) (he : 0 ≤ e) (hn : n < 39) (ho : o < 8) {t' r' : Nat} (hs : gSk (gWa M w 212) (n + 1) = some (o + 1, b, t', r')) : gWu M0 (gWa (aPut M 188 39 (Int32.ofInt ((M 188 39).toInt + 1))) w) (n + 1) (o + 1) b t' r' e := by
  obtain ⟨h1, h2, h3, h4, h5, h6, h7, h8⟩ := h
  have e41 : aPut M 188 39 (Int32.ofInt ((M 188 39).toInt + 1)) 188 41 = M 188 41 := aPut_f (by decide)
  have hs' : gSk (gWa (aPut M 188 39 (Int32.ofInt ((M 188 39).toInt + 1))) w 212) (n + 1) = some (o + 1, b, t', r') := by
    rw [← hs]
    refine gSk_eq (fun i _ => ?_)
    unfold gWa
    rw [e41]
    unfold aPut
    simp
  refine ⟨?_, ?_, ?_, ?_, by omega, hs', ?_, ?_⟩
  · exact gTs_put (gTs_put (gTs_put h1 (by decide) (fun _ => by decide)) (by decide) (fun q => absurd q (by decide))) (by decide) (fun _ => by decide)
  · exact h2.trans ((gFw_put (Or.inr ⟨rfl, Or.inl rfl⟩)).trans ((gFw_put (Or.inl rfl)).trans (gFw_put (Or.inr ⟨rfl, Or.inr rfl⟩))))
  · unfold gWa
    rw [aPut_e, e41, iR (by omega) (by omega), h3]
    omega
  · rw [gWa_f (by decide), aPut_e, iR (by omega) (by omega), h4]
    omega
  · rw [gWa_f (by decide), aPut_f (by decide)]; exact h7
  · exact ((h8.put (by omega) (by decide) (by decide) (fun _ => by decide)).put (by omega) (by decide) (by decide) (fun q => absurd q (by decide))).put (by omega) (by decide) (by decide) (fun _ => by decide)
/-- one of what waits goes: the place and how many are open are told anew -/
def gPo (M : Nat → Nat → Int32) : Nat → Nat → Int32 := aPut M 188 41 (Int32.ofInt ((M 188 41).toInt - 1))
theorem gDn_wu {M0 M M' : Nat → Nat → Int32} {n o b t r : Nat} {e c x : Int} (h : gWu M0 M n o b t r e) (he : 0 ≤ e) (hd : gDn M M' c x) (hx : gEff M M' 0 1) : gWu M0 M' n o b t r (e + 1) := by
  obtain ⟨h1, h2, h3, h4, h5, h6, h7, h8⟩ := h
  obtain ⟨u1, u2, u3, u4, uf, u5⟩ := hd
  refine ⟨u1, h2.trans u2.fw, ?_, ?_, h5, ?_, u3, h8.trans hx (by omega)⟩
  · rw [u2.2.2 41 (by decide) (by decide) (by decide) (by decide) (by decide) (by decide) (by decide)]; exact h3
  · rw [u2.2.2 39 (by decide) (by decide) (by decide) (by decide) (by decide) (by decide) (by decide)]; exact h4
  · rw [u2.1 212 (by decide) (by decide) (by decide)]; exact h6
/-- the tokens are as they were -/
def gTk4 (M M' : Nat → Nat → Int32) : Prop := ∀ f, 24 ≤ f → f ≤ 28 → M' 188 f = M 188 f
theorem bk_74_0 : (aMC 74)[0]? = some [.aload 0, .getfield 128212162, .aload 0, .getfield 128312164, .iload 1, .iastore, .aload 0, .aload 0, .getfield 128312164, .bipush 1, .iadd, .putfield 128312164, .return_] := by decide +kernel
theorem bk_75_0 : (aMC 75)[0]? = some [.aload 0, .getfield 128312164, .ifCond .le 4] := by decide +kernel
theorem bk_75_1 : (aMC 75)[1]? = some [.aload 0, .getfield 128212162, .aload 0, .getfield 128312164, .bipush 1, .isub, .iaload, .iload 1, .if_icmp .ne 4] := by decide +kernel
theorem bk_75_2 : (aMC 75)[2]? = some [.aload 0, .aload 0, .getfield 128312164, .bipush 1, .isub, .putfield 128312164, .aload 0, .iload 1, .bipush 0, .invokevirtual 1576069, .iload 1, .bipush 9, .if_icmp .ne 0] := by decide +kernel
theorem bk_75_3 : (aMC 75)[3]? = some [.aload 0, .aload 0, .getfield 128112156, .bipush 1, .isub, .putfield 128112156, .goto 0] := by decide +kernel
theorem bk_75_4 : (aMC 75)[4]? = some [.return_] := by decide +kernel
theorem h74 {X : aX} {d : Nat} {k : Nat → aK} (hk : gKs k) {M : Nat → Nat → Int32} {w : Int} (hm : 0 ≤ (M 188 41).toInt ∧ (M 188 41).toInt < 40) : zRn X (d + 1) 74 [.ref 188, iv w] (gH k M) (fun rv h' => rv = none ∧ h' = gH k (gWa M w)) := by
  refine wEnt (n := 2) (ls := [.ref 188, iv w]) bk_74_0 (by decide +kernel) rfl rfl rfl ?_
  refine wP (ls' := [.ref 188, iv w]) (st' := [.ref 188]) rfl rfl ?_
  refine wGetR hk (r := 212) (by decide +kernel) ?_
  refine wP (ls' := [.ref 188, iv w]) (st' := [.ref 188, .ref 212]) rfl rfl ?_
  refine wGetN hk (f := 41) (e := (M 188 41).toInt) (by decide +kernel) (iE _) ?_
  refine wP (ls' := [.ref 188, iv w]) (st' := [iv w, iv (M 188 41).toInt, .ref 212]) rfl rfl ?_
  refine wIst hk (l := 40) (by decide +kernel) (by omega) (by omega) ?_
  refine wP (ls' := [.ref 188, iv w]) (st' := [.ref 188]) rfl rfl ?_
  refine wP (ls' := [.ref 188, iv w]) (st' := [.ref 188, .ref 188]) rfl rfl ?_
  refine wGetN hk (f := 41) (e := (M 188 41).toInt) (by decide +kernel) (by rw [aPut_o (by decide)]; exact iE _) ?_
  refine wP (ls' := [.ref 188, iv w]) (st' := [iv 1, iv (M 188 41).toInt, .ref 188]) rfl rfl ?_
  refine wAdd ?_
  refine wPutN hk (f := 41) (by decide +kernel) (Or.inl rfl) ?_
  exact wRet0 (by decide +kernel) ⟨rfl, rfl⟩
theorem h75_l {X : aX} {d : Nat} {k : Nat → aK} (hk : gKs k) {M : Nat → Nat → Int32} {M0 : Nat → Nat → Int32} {w c : Int} {r : Nat} (hw : w = 9 ∨ w = 10 ∨ w = 11) (hc : 0 ≤ c) :
    ∀ (n o b t : Nat) (M1 : Nat → Nat → Int32) (hW : gWu M0 M1 n o b t r (b + 1)) (hS : (M1 188 38).toInt + ((o : Int) - r + b + c) ≤ (M1 188 26).toInt) (hK : gTk4 M M1) (hP : (w = 10 → t ≠ 3) ∧ (w = 11 → t = 0 ∨ t = 1)), zW X (d + 1) 75 0 [.aload 0, .getfield 128312164, .ifCond .le 4] [.ref 188, iv w] [] (gH k M1) (fun rv h' => ∃ M' n' o' b' t', rv = none ∧ h' = gH k M' ∧ gWu M0 M' n' o' b' t' r (b' + 1) ∧ (M' 188 38).toInt + ((o' : Int) - r + b' + c) ≤ (M' 188 26).toInt ∧ gTk4 M M' ∧ (w = 9 → t' ≠ 3) ∧ (w = 10 → t' = 0 ∨ t' = 1) ∧ (w = 11 → t' = 0)) := by
  intro n
  induction n with
  | zero =>
    intro o b t M1 hW hS hK hP
    obtain ⟨s1, s2, s3, s4, s5, s6, s7, s8⟩ := hW
    have ln := (gSk_le s6).1
    obtain ⟨-, l2, l3, l4, l5⟩ := gSk_le s6
    obtain ⟨p1, p2, p3, p4, p5⟩ := s1.1
    obtain ⟨q1, q2, q3, q4, q5, q6, q7⟩ := s1.2
    refine wP (ls' := [.ref 188, iv w]) (st' := [.ref 188]) rfl rfl ?_
    refine wGetN hk (f := 41) (e := (M1 188 41).toInt) (by decide +kernel) (iE _) ?_
    refine wIf0 (n1 := 4) rfl bk_75_4 bk_75_1 (by first | exact iG _ | omega) (fun g0 => ?_) (fun g0 => ?_)
    · replace g0 : ((M1 188 41).toInt : Int) ≤ 0 := g0
      obtain ⟨z1, z2, z3, z4⟩ := l4 (by omega)
      exact wRet0 (by decide +kernel) ⟨_, _, _, _, _, rfl, rfl, ⟨s1, s2, s3, s4, s5, s6, s7, s8⟩, hS, hK, by omega, by omega, by omega⟩
    · replace g0 : ¬ (((M1 188 41).toInt : Int) ≤ 0) := g0
      exact absurd g0 (by omega)
  | succ n ih =>
    intro o b t M1 hW hS hK hP
    obtain ⟨s1, s2, s3, s4, s5, s6, s7, s8⟩ := hW
    have ln := (gSk_le s6).1
    obtain ⟨-, l2, l3, l4, l5⟩ := gSk_le s6
    obtain ⟨p1, p2, p3, p4, p5⟩ := s1.1
    obtain ⟨q1, q2, q3, q4, q5, q6, q7⟩ := s1.2
    obtain ⟨o1, b1, t1, r1, h1, dd⟩ := gSk_dn s6
    obtain ⟨-, m2, m3, -, m5⟩ := gSk_le h1
    clear l4
    have ln : n + 1 ≤ 27 := by split at ln <;> omega
    have hg : (M1 212 n).toInt = w → 1 ≤ (o : Int) - r + b := by
      intro z
      rcases dd with ⟨d1, d2⟩ | ⟨d1, d2⟩ | ⟨d1, d2⟩ | ⟨d1, d2⟩
      · omega
      · rw [d1] at z; have y : (12 : Int32).toInt = 12 := rfl; omega
      · omega
      · omega
    refine wP (ls' := [.ref 188, iv w]) (st' := [.ref 188]) rfl rfl ?_
    refine wGetN hk (f := 41) (e := (M1 188 41).toInt) (by decide +kernel) (iE _) ?_
    refine wIf0 (n1 := 4) rfl bk_75_4 bk_75_1 (by first | exact iG _ | omega) (fun g0 => ?_) (fun g0 => ?_)
    · replace g0 : ((M1 188 41).toInt : Int) ≤ 0 := g0
      exact absurd g0 (by omega)
    · replace g0 : ¬ (((M1 188 41).toInt : Int) ≤ 0) := g0
      refine wP (ls' := [.ref 188, iv w]) (st' := [.ref 188]) rfl rfl ?_
      refine wGetR hk (r := 212) (by decide +kernel) ?_
      refine wP (ls' := [.ref 188, iv w]) (st' := [.ref 188, .ref 212]) rfl rfl ?_
      refine wGetN hk (f := 41) (e := (M1 188 41).toInt) (by decide +kernel) (iE _) ?_
      refine wP (ls' := [.ref 188, iv w]) (st' := [iv 1, iv (M1 188 41).toInt, .ref 212]) rfl rfl ?_
      refine wSub ?_
      refine wIld hk (l := 40) (e := (M1 212 (((M1 188 41).toInt - 1)).toNat).toInt) (by decide +kernel) (by omega) (by omega) (iE _) ?_
      refine wP (ls' := [.ref 188, iv w]) (st' := [iv w, iv (M1 212 (((M1 188 41).toInt - 1)).toNat).toInt]) rfl rfl ?_
      refine wIfc (n1 := 4) rfl bk_75_4 bk_75_2 (by first | exact iG _ | omega) (by omega) (fun g1 => ?_) (fun g1 => ?_)
      · replace g1 : ¬ ((M1 212 (((M1 188 41).toInt - 1)).toNat).toInt : Int) = w := g1
        have ng : M1 212 n ≠ Int32.ofInt w := fun z => by
          rw [show ((M1 188 41).toInt - 1).toNat = n by omega, z, iR (by omega) (by omega)] at g1
          exact g1 rfl
        have n9 : w = 9 → M1 212 n ≠ 9 := fun z y => ng (by rw [z, y]; rfl)
        have n10 : w = 10 → M1 212 n ≠ 10 := fun z y => ng (by rw [z, y]; rfl)
        have n11 : w = 11 → M1 212 n ≠ 11 := fun z y => ng (by rw [z, y]; rfl)
        refine wRet0 (by decide +kernel) ⟨_, _, _, _, _, rfl, rfl, ⟨s1, s2, s3, s4, s5, s6, s7, s8⟩, hS, hK, ?_, ?_, ?_⟩
        · intro z
          rcases dd with ⟨d1, d2⟩ | ⟨d1, d2⟩ | ⟨d1, d2⟩ | ⟨d1, d2⟩
          · exact absurd d1 (n9 z)
          · omega
          · omega
          · omega
        · intro z
          have := hP.1 z
          rcases dd with ⟨d1, d2⟩ | ⟨d1, d2⟩ | ⟨d1, d2⟩ | ⟨d1, d2⟩
          · omega
          · omega
          · omega
          · exact absurd d1 (n10 z)
        · intro z
          have := hP.2 z
          rcases dd with ⟨d1, d2⟩ | ⟨d1, d2⟩ | ⟨d1, d2⟩ | ⟨d1, d2⟩
          · omega
          · omega
          · exact absurd d1 (n11 z)
          · omega
      · replace g1 : ¬ (¬ ((M1 212 (((M1 188 41).toInt - 1)).toNat).toInt : Int) = w) := g1
        refine wP (ls' := [.ref 188, iv w]) (st' := [.ref 188]) rfl rfl ?_
        refine wP (ls' := [.ref 188, iv w]) (st' := [.ref 188, .ref 188]) rfl rfl ?_
        refine wGetN hk (f := 41) (e := (M1 188 41).toInt) (by decide +kernel) (iE _) ?_
        refine wP (ls' := [.ref 188, iv w]) (st' := [iv 1, iv (M1 188 41).toInt, .ref 188]) rfl rfl ?_
        refine wSub ?_
        refine wPutN hk (f := 41) (by decide +kernel) (Or.inl rfl) ?_
        refine wP (ls' := [.ref 188, iv w]) (st' := [.ref 188]) rfl rfl ?_
        refine wP (ls' := [.ref 188, iv w]) (st' := [iv w, .ref 188]) rfl rfl ?_
        refine wP (ls' := [.ref 188, iv w]) (st' := [iv 0, iv w, .ref 188]) rfl rfl ?_
        refine wCall hk (q := 69) (na := 2) (a := 188) (as := [iv w, iv 0]) (t := []) rfl (by decide +kernel) (by decide) (by decide +kernel) (Nat.le_of_ble_eq_true rfl) rfl rfl (zRn.mono (h69 hk ⟨by rw [aPut_f (by decide)]; omega, by have := hg (by rw [show n = ((M1 188 41).toInt - 1).toNat by omega]; omega); rw [aPut_f (by decide)]; omega⟩) (fun rv h' hq => ?_))
        obtain ⟨rfl, rfl⟩ := hq
        refine ⟨rfl, ?_⟩
        show zW X _ 75 2 [.iload 1, .bipush 9, .if_icmp .ne 0] [.ref 188, iv w] [] (gH k (gEm (gPo M1) w 0)) _
        refine wP (ls' := [.ref 188, iv w]) (st' := [iv w]) rfl rfl ?_
        refine wP (ls' := [.ref 188, iv w]) (st' := [iv 9, iv w]) rfl rfl ?_
        refine wIfc (n1 := 0) rfl bk_75_0 bk_75_3 (by omega) (by omega) (fun g2 => ?_) (fun g2 => ?_)
        · replace g2 : ¬ (w : Int) = 9 := g2
          have g1w : (M1 212 n).toInt = w := by
            rw [show ((M1 188 41).toInt - 1).toNat = n by omega] at g1
            omega
          have em := gEm_m (M := gPo M1) (w := w) (v := 0) ⟨by unfold gPo; rw [aPut_f (by decide)]; omega, by unfold gPo; rw [aPut_f (by decide)]; omega⟩
          have em0 : (gPo M1 188 38).toInt = (M1 188 38).toInt := by unfold gPo; rw [aPut_f (by decide)]
          have ef : ∀ f, f ≠ 38 → f ≠ 41 → gEm (gPo M1) w 0 188 f = M1 188 f := fun f f1 f2 => by rw [gEm_f f1]; unfold gPo; exact aPut_f f2
          have e41 : (gEm (gPo M1) w 0 188 41).toInt = n := by rw [gEm_f (by decide)]; unfold gPo; rw [aPut_e, iR (by omega) (by omega)]; omega
          have e212 : gEm (gPo M1) w 0 212 = M1 212 := by rw [gEm_c (by decide) (by decide) (by decide)]; unfold gPo; exact aPut_r (by decide)
          have ts : gTs (gEm (gPo M1) w 0) := gEm_ts (gTs_put s1 (by decide) (fun _ => by decide))
          have fw : gFw M0 (gEm (gPo M1) w 0) := s2.trans ((gFw_put (Or.inr ⟨rfl, Or.inr rfl⟩)).trans (gEm_fr (M := gPo M1) (by rw [em0]; exact s7)).fw)
          have ep : gEff M0 (gPo M1) 0 (b + 1) := s8.put (by omega) (by decide) (by decide) (fun _ => by decide)
          rcases dd with ⟨d1, d2⟩ | ⟨d1, d2⟩ | ⟨d1, d2⟩ | ⟨d1, d2⟩
          · rw [d1] at g1w; have z : (9 : Int32).toInt = 9 := rfl; omega
          · rw [d1] at g1w; have z : (12 : Int32).toInt = 12 := rfl; omega
          · have ww : w = 11 := by rw [d1] at g1w; have y : (11 : Int32).toInt = 11 := rfl; omega
            have ee := ep.trans (gEm_bin (M := gPo M1) (w := w) (v := 0) ⟨by omega, by omega⟩ (Or.inr (Or.inr (Or.inr (Or.inr (Or.inr (Or.inr (Or.inr (Or.inl ww))))))))) (by omega)
            obtain ⟨d2, d3, d4, d5, d6⟩ := d2
            rw [show ((b : Int) + 1 + -1) = b1 + 1 by omega] at ee
            refine ih o1 b1 t1 (gEm (gPo M1) w 0) ⟨ts, fw, e41, ?_, by omega, ?_, ?_, ee⟩ ?_ (fun f f1 f2 => ?_) ⟨fun z => ?_, fun z => ?_⟩
            · rw [ef 39 (by decide) (by decide)]; omega
            · rw [e212, d6]; exact h1
            · omega
            · rw [ef 26 (by decide) (by decide)]; omega
            · rw [ef f (by omega) (by omega)]; exact hK f f1 f2
            · omega
            · omega
          · have ww : w = 10 := by rw [d1] at g1w; have y : (10 : Int32).toInt = 10 := rfl; omega
            have ee := ep.trans (gEm_bin (M := gPo M1) (w := w) (v := 0) ⟨by omega, by omega⟩ (Or.inr (Or.inr (Or.inr (Or.inr (Or.inr (Or.inr (Or.inl ww)))))))) (by omega)
            obtain ⟨d2, d3, d4, d5, d6⟩ := d2
            rw [show ((b : Int) + 1 + -1) = b1 + 1 by omega] at ee
            refine ih o1 b1 t1 (gEm (gPo M1) w 0) ⟨ts, fw, e41, ?_, by omega, ?_, ?_, ee⟩ ?_ (fun f f1 f2 => ?_) ⟨fun z => ?_, fun z => ?_⟩
            · rw [ef 39 (by decide) (by decide)]; omega
            · rw [e212, d6]; exact h1
            · omega
            · rw [ef 26 (by decide) (by decide)]; omega
            · rw [ef f (by omega) (by omega)]; exact hK f f1 f2
            · omega
            · rw [d1] at g1w; have y : (10 : Int32).toInt = 10 := rfl; omega
        · replace g2 : ¬ (¬ (w : Int) = 9) := g2
          refine wP (ls' := [.ref 188, iv w]) (st' := [.ref 188]) rfl rfl ?_
          refine wP (ls' := [.ref 188, iv w]) (st' := [.ref 188, .ref 188]) rfl rfl ?_
          refine wGetN hk (f := 39) (e := ((gEm (gPo M1) w 0) 188 39).toInt) (by decide +kernel) (iE _) ?_
          refine wP (ls' := [.ref 188, iv w]) (st' := [iv 1, iv ((gEm (gPo M1) w 0) 188 39).toInt, .ref 188]) rfl rfl ?_
          refine wSub ?_
          refine wPutN hk (f := 39) (by decide +kernel) (Or.inl rfl) ?_
          refine wGoto (n1 := 0) rfl bk_75_0 ?_
          have g1w : (M1 212 n).toInt = w := by
            rw [show ((M1 188 41).toInt - 1).toNat = n by omega] at g1
            omega
          have em := gEm_m (M := gPo M1) (w := w) (v := 0) ⟨by unfold gPo; rw [aPut_f (by decide)]; omega, by unfold gPo; rw [aPut_f (by decide)]; omega⟩
          have em0 : (gPo M1 188 38).toInt = (M1 188 38).toInt := by unfold gPo; rw [aPut_f (by decide)]
          have ef : ∀ f, f ≠ 38 → f ≠ 41 → gEm (gPo M1) w 0 188 f = M1 188 f := fun f f1 f2 => by rw [gEm_f f1]; unfold gPo; exact aPut_f f2
          have e41 : (gEm (gPo M1) w 0 188 41).toInt = n := by rw [gEm_f (by decide)]; unfold gPo; rw [aPut_e, iR (by omega) (by omega)]; omega
          have e212 : gEm (gPo M1) w 0 212 = M1 212 := by rw [gEm_c (by decide) (by decide) (by decide)]; unfold gPo; exact aPut_r (by decide)
          have ts : gTs (gEm (gPo M1) w 0) := gEm_ts (gTs_put s1 (by decide) (fun _ => by decide))
          have fw : gFw M0 (gEm (gPo M1) w 0) := s2.trans ((gFw_put (Or.inr ⟨rfl, Or.inr rfl⟩)).trans (gEm_fr (M := gPo M1) (by rw [em0]; exact s7)).fw)
          have ep : gEff M0 (gPo M1) 0 (b + 1) := s8.put (by omega) (by decide) (by decide) (fun _ => by decide)
          have w9 : w = 9 := by omega
          rcases dd with ⟨d1, d2⟩ | ⟨d1, d2⟩ | ⟨d1, d2⟩ | ⟨d1, d2⟩
          · have e39 := ef 39 (by decide) (by decide)
            have ee := ep.trans (gEm_not (M := gPo M1) (v := 0) ⟨by omega, by omega⟩) (by omega)
            rw [Int.add_zero, ← w9] at ee
            obtain ⟨d2, d3, d4, d5⟩ := d2
            refine ih o1 b1 t1 (aPut (gEm (gPo M1) w 0) 188 39 (Int32.ofInt (((gEm (gPo M1) w 0) 188 39).toInt - 1))) ⟨gTs_put ts (by decide) (fun _ => by decide), fw.trans (gFw_put (Or.inr ⟨rfl, Or.inl rfl⟩)), by rw [aPut_f (by decide)]; exact e41, ?_, by omega, ?_, ?_, ?_⟩ ?_ (fun f f1 f2 => ?_) ⟨fun z => by omega, fun z => by omega⟩
            · rw [aPut_e, e39, iR (by omega) (by omega)]; omega
            · rw [aPut_r (by decide), e212, d5]; exact h1
            · rw [aPut_f (by decide)]; omega
            · rw [← d3]; exact ee.put (by omega) (by decide) (by decide) (fun _ => by decide)
            · rw [aPut_f (by decide), aPut_f (by decide), ef 26 (by decide) (by decide)]; omega
            · rw [aPut_f (by omega), ef f (by omega) (by omega)]; exact hK f f1 f2
          · rw [d1, w9] at g1w; exact absurd g1w (by decide)
          · rw [d1, w9] at g1w; exact absurd g1w (by decide)
          · rw [d1, w9] at g1w; exact absurd g1w (by decide)
theorem h75 {X : aX} {d : Nat} {k : Nat → aK} (hk : gKs k) {M : Nat → Nat → Int32} {M0 : Nat → Nat → Int32} {w c : Int} {n o b t r : Nat} (hw : w = 9 ∨ w = 10 ∨ w = 11) (hc : 0 ≤ c) (hW : gWu M0 M n o b t r (b + 1)) (hS : (M 188 38).toInt + ((o : Int) - r + b + c) ≤ (M 188 26).toInt) (hP : (w = 10 → t ≠ 3) ∧ (w = 11 → t = 0 ∨ t = 1)) : zRn X (d + 1 + 1) 75 [.ref 188, iv w] (gH k M) (fun rv h' => ∃ M' n' o' b' t', rv = none ∧ h' = gH k M' ∧ gWu M0 M' n' o' b' t' r (b' + 1) ∧ (M' 188 38).toInt + ((o' : Int) - r + b' + c) ≤ (M' 188 26).toInt ∧ gTk4 M M' ∧ (w = 9 → t' ≠ 3) ∧ (w = 10 → t' = 0 ∨ t' = 1) ∧ (w = 11 → t' = 0)) := by
  refine wEnt (n := 2) (ls := [.ref 188, iv w]) bk_75_0 (by decide +kernel) rfl rfl rfl ?_
  exact h75_l hk hw hc n o b t M hW hS (fun _ _ _ => rfl) hP
