/-! the reference reads E -/
def rcC (q : Cd) : List (Int32 × Int32) := match q.1 with
  | 9 => List.replicate q.2.toInt.toNat (kI 9, kI 0)
  | m => [(kI m, q.2)]
def rcO (o : List Cd) : List (Int32 × Int32) := o.flatMap rcC
theorem rcO_app {a b : List Cd} : rcO (a ++ b) = rcO a ++ rcO b := List.flatMap_append ..
theorem rcO_one {q : Cd} : rcO [q] = rcC q := by
  show rcC q ++ [] = rcC q
  rw [List.append_nil]
/-- the draft's codes -/
def rcd (M : pMem) (L : List (Int32 × Int32)) : Prop := (M 188 38).toInt = L.length ∧ ∀ i x, L[i]? = some x → M 210 (2000 + i) = x.1 ∧ M 211 (2000 + i) = x.2
theorem rcd_fr {M N : pMem} {L : List (Int32 × Int32)} {S : List (Nat × Nat)} (h : rcd M L) (f : pFr S M N) (k : (pOut S 188 38 && (pNo S 210 && pNo S 211)) = true) : rcd N L := by
  simp only [Bool.and_eq_true] at k
  refine ⟨by rw [f 188 38 (by decide) rfl k.1]; exact h.1, fun i x hi => ?_⟩
  rw [f 210 _ (by decide) rfl (pNo_out k.2.1 _), f 211 _ (by decide) rfl (pNo_out k.2.2 _)]
  exact h.2 i x hi
section RS
variable {M N : pMem} {B : Nat → Int32} {n k : Nat} {o : List Cd} {v : Int32}
theorem D_69_w {L : List (Int32 × Int32)} (h : rcd M L) {a b : Int32} {u : Unit} (hD : D_69 a b M u N) : rcd N (L ++ [(a, b)]) := by
  obtain ⟨g, M1, e1, _, M2, e2, M3, e3, _, hN⟩ := hD
  obtain ⟨h1, h2⟩ := h
  have hl : L.length < 500 := by
    obtain ⟨g1, g2⟩ := g
    have rg := i_rg (M 188 38)
    by_cases c : (M 188 38).toInt ≤ 2147481647
    · rw [i_add (by rw [kI_toInt (by decide) (by decide)]; omega) (by rw [kI_toInt (by decide) (by decide)]; omega), kI_toInt (by decide) (by decide), h1] at g2
      omega
    · exfalso
      have e : (kI 2000 + M 188 38).toInt = (M 188 38).toInt + 2000 - 4294967296 := by
        have q : kI 2000 + M 188 38 = Int32.ofInt (2000 + (M 188 38).toInt) := by rw [Int32.ofInt_add, Int32.ofInt_toInt]
        rw [q, Int32.toInt_ofInt, Int.bmod_def, show Int32.size = 4294967296 from rfl]
        omega
      rw [e] at g1
      omega
  have i1 : ix (kI 2000 + M 188 38) = 2000 + L.length := ix_of (by rw [i_add (by rw [kI_toInt (by decide) (by decide)]; omega) (by rw [kI_toInt (by decide) (by decide)]; omega), kI_toInt (by decide) (by decide), h1]; omega)
  have q1 : M1 188 38 = M 188 38 := by rw [e1, aPut_cell (by decide)]
  rw [q1, i1] at e2
  rw [i1] at e1
  rw [hN]
  refine ⟨?_, fun i x hi => ?_⟩
  · rw [e3, aPut_same, e2, aPut_cell (by decide), q1, i_add1 (by omega), h1, List.length_append, List.length_singleton]
    omega
  · rw [e3, aPut_cell (by decide), aPut_cell (by decide), e2, aPut_cell (by decide), aPut_row, e1, aPut_row, aPut_cell (by decide)]
    by_cases e : i = L.length
    · rw [if_pos (by omega), if_pos (by omega)]
      rw [e, List.getElem?_append_right (Nat.le_refl _), Nat.sub_self] at hi
      have := Option.some.inj hi
      rw [← this]
      exact ⟨rfl, rfl⟩
    · rw [if_neg (by omega), if_neg (by omega)]
      have hlt := (List.getElem?_eq_some_iff.mp hi).1
      rw [List.length_append, List.length_singleton] at hlt
      rw [List.getElem?_append_left (by omega)] at hi
      exact h2 i x hi
theorem D_69_c {q : Cd} (h : rcd M (rcO o)) (hr : rR M B n k) {a b : Int32} (hq : rcC q = [(a, b)]) {u : Unit} (hD : D_69 a b M u N) : rcd N (rcO (o ++ [q])) ∧ rR N B n k := by
  refine ⟨?_, rR_fr hr (F_69 hD) rfl (fun j => rfl)⟩
  rw [rcO_app, rcO_one, hq]
  exact D_69_w h hD
theorem D_65_c {u : Unit} (h : rcd M (rcO o)) (hr : rR M B n k) (hD : D_65 M u N) : rcd N (rcO o) ∧ rR N B n (k + 1) := ⟨rcd_fr h (F_65 hD) (by decide +kernel), rR_next hr hD⟩
/-- signs and words as the reference sees them -/
theorem rR_sg (h : rR M B n k) {s : Int} (h1 : 40 ≤ s) (h2 : s ≤ 62) : ¬ f_68 (kI s) M = 0 ↔ yT B n k = kI s := by
  have c := xRel_c (rR_t h).1
  unfold f_68
  rw [show (yT B n k = kI s) = ((yT B n k).toInt = s) from propext (yk (by omega) (by omega))]
  by_cases c1 : M 188 27 = kI 4
  · rw [if_neg (nn c1)]
    rw [yk (by decide) (by decide)] at c1
    by_cases c2 : M 188 28 = kI s
    · rw [if_neg (nn c2)]
      refine ⟨fun _ => ?_, fun _ => by decide⟩
      rcases c with c | c | ⟨r, _, c⟩ | c | ⟨_, _, _, c⟩
      · omega
      · omega
      · omega
      · omega
      · rw [← c, c2, kI_toInt (by omega) (by omega)]
    · rw [if_pos c2]
      refine ⟨fun q => absurd rfl q, fun e => ?_⟩
      rcases c with c | c | ⟨r, _, c⟩ | c | ⟨_, _, _, c⟩
      · omega
      · omega
      · omega
      · omega
      · rw [c, yk (by omega) (by omega)] at c2
        exact absurd e c2
  · rw [if_pos c1]
    refine ⟨fun q => absurd rfl q, fun e => ?_⟩
    rw [yk (by decide) (by decide)] at c1
    rcases c with c | c | ⟨r, c0, c⟩ | c | ⟨_, _, c, _⟩
    · omega
    · omega
    · omega
    · omega
    · exact absurd c c1
theorem rR_wd (h : rR M B n k) {r : Nat} (hr : r < 29) : ¬ f_67 (kI r) M = 0 ↔ yT B n k = kI (xCw r) := by
  have c := xRel_c (rR_t h).1
  have hx := xCw_lt r hr
  unfold f_67
  rw [show (yT B n k = kI (xCw r)) = ((yT B n k).toInt = (xCw r : Int)) from propext (yk (by omega) (by omega))]
  by_cases c1 : M 188 27 = kI 2
  · rw [if_neg (nn c1)]
    rw [yk (by decide) (by decide)] at c1
    by_cases c2 : M 188 28 = kI r
    · rw [if_neg (nn c2)]
      refine ⟨fun _ => ?_, fun _ => by decide⟩
      rw [yk (by omega) (by omega)] at c2
      rcases c with c | c | ⟨r', _, c, _, _, c'⟩ | c | c
      · omega
      · omega
      · rw [c, show r' = r by omega]
      · omega
      · omega
    · rw [if_pos c2]
      refine ⟨fun q => absurd rfl q, fun e => ?_⟩
      rw [yk (by omega) (by omega)] at c2
      rcases c with c | c | ⟨r', hr', c, _, _, c'⟩ | c | c
      · omega
      · omega
      · have hx' := xCw_lt r' hr'
        have : xCw r' = xCw r := by omega
        rw [← hx'.2, this, hx.2] at c'
        exact absurd c' c2
      · omega
      · omega
  · rw [if_pos c1]
    refine ⟨fun q => absurd rfl q, fun e => ?_⟩
    rw [yk (by decide) (by decide)] at c1
    rcases c with c | c | ⟨r', c0, c⟩ | c | c
    · omega
    · omega
    · omega
    · omega
    · omega
/-- how a reading function of the reference ends -/
def rE (N : pMem) (B : Nat → Int32) (n : Nat) (v : Int32) (r : Rs) : Prop := (r.1 = 0 → v = kI 0 ∧ rR N B n r.2.1 ∧ rcd N (rcO r.2.2)) ∧ (r.1 ≠ 0 → rNo B n N v r.1 r.2.1)
theorem rE_ok {r : Rs} (h : rE N B n v r) (h0 : ¬ v = kI (-1)) : r.1 = 0 := Classical.byContradiction fun e => h0 (h.2 e).1
theorem rE_no {r : Rs} (h : rE N B n v r) (h0 : v = kI (-1)) : r.1 ≠ 0 := fun e => by
  have := (h.1 e).1
  rw [h0] at this
  exact absurd this (by decide)
theorem rE_bad {f k' : Nat} {o' : List Cd} (h : rNo B n N v f k') (hf : f ≠ 0) : rE N B n v (f, k', o') := ⟨fun e => absurd e hf, fun _ => h⟩
theorem D_70_w (hr : rR M B n k) (ho : rcd M (rcO o)) (hD : D_70 M v N) : rE N B n v (unG (yT B n) (yV B n) False k o) := by
  have c := xRel_c (rR_t hr).1
  have e2 : M 188 27 = kI 2 ↔ (M 188 27).toInt = 2 := yk (by decide) (by decide)
  have e3 : M 188 27 = kI 3 ↔ (M 188 27).toInt = 3 := yk (by decide) (by decide)
  have e15 : M 188 28 < kI 15 ↔ (M 188 28).toInt < 15 := by rw [i_lt, kI_toInt (by decide) (by decide)]
  have t100 : yT B n k = kI 100 ↔ (yT B n k).toInt = 100 := yk (by decide) (by decide)
  have bad : ∀ {v1 : Int32} {M1 : pMem}, ¬ (yT B n k).toInt = 100 → ¬ (0 ≤ (yT B n k).toInt ∧ (yT B n k).toInt ≤ 13) → D_66 (kI 1) M v1 M1 → v = v1 → N = M1 → rE N B n v (unG (yT B n) (yV B n) False k o) := by
    intro v1 M1 q1 q2 hD hv hN
    unfold unG
    rw [if_neg (fun q => q1 (t100.mp q)), if_neg (fun q => q2 ⟨q.1, q.2.1⟩)]
    rw [hN, hv]
    exact rE_bad (D_66_w (f := 1) hr hD) (by decide)
  have num : ∀ {u1 u2 : Unit} {M1 M2 : pMem}, (M 188 27).toInt = 3 → D_69 (kI 0) (M 188 28) M u1 M1 → D_65 M1 u2 M2 → v = kI 0 → N = M2 → rE N B n v (unG (yT B n) (yV B n) False k o) := by
    intro u1 u2 M1 M2 q1 h69 h65 hv hN
    have q2 : (yT B n k).toInt = 100 ∧ M 188 28 = yV B n k := by
      rcases c with c | c | ⟨r, _, c⟩ | c | c
      · omega
      · omega
      · omega
      · exact ⟨c.1, c.2.2⟩
      · omega
    rw [q2.2] at h69
    obtain ⟨a1, a2⟩ := D_69_c (q := (0, yV B n k)) ho hr rfl h69
    obtain ⟨b1, b2⟩ := D_65_c a1 a2 h65
    unfold unG
    rw [if_pos (t100.mpr q2.1), if_neg (fun q => q.1)]
    rw [hN]
    exact ⟨fun _ => ⟨hv, b2, b1⟩, fun e => absurd rfl e⟩
  rcases hD with ⟨g, hD⟩ | ⟨g, hD⟩
  · rw [e2] at g
    rcases hD with ⟨g2, _, M1, h69, _, M2, h65, hv, hN⟩ | ⟨g2, v1, M1, hD, hv, hN⟩
    · exact num (e3.mp g2) h69 h65 hv hN
    · rw [e3] at g2
      refine bad ?_ ?_ hD hv hN
      · rcases c with c | c | ⟨r, _, c⟩ | c | c <;> omega
      · rcases c with c | c | ⟨r, _, c⟩ | c | c <;> omega
  · have g := e2.mp (Classical.not_not.mp g)
    obtain ⟨r, r29, cT, cx, _, cv⟩ : ∃ r : Nat, r < 29 ∧ (yT B n k).toInt = xCw r ∧ xCw r < 29 ∧ (M 188 27).toInt = 2 ∧ (M 188 28).toInt = r := by
      rcases c with c | c | c | c | c
      · omega
      · omega
      · exact c
      · omega
      · omega
    have cw := xCw_pl r r29
    rcases hD with ⟨g2, hD⟩ | ⟨g2, _, M1, h69, _, M2, h65, hv, hN⟩
    · rw [e15] at g2
      rcases hD with ⟨g3, _⟩ | ⟨_, v1, M1, hD, hv, hN⟩
      · rw [e3] at g3
        omega
      · refine bad (by omega) (fun q => ?_) hD hv hN
        have : ¬ 15 ≤ r := by omega
        exact this (cw.2.2.2.2.1.mpr (by omega))
    · rw [e15] at g2
      have r15 : 15 ≤ r := by omega
      have x13 := cw.2.2.2.2.1.mp r15
      have xr := cw.2.2.2.2.2.1 r15
      have ea : M 188 28 - kI 15 = yT B n k := by
        rw [i_eq, i_sub (by rw [kI_toInt (by decide) (by decide)]; omega) (by rw [kI_toInt (by decide) (by decide)]; omega), kI_toInt (by decide) (by decide)]
        omega
      rw [ea] at h69
      obtain ⟨a1, a2⟩ := D_69_c (q := (1, yT B n k)) ho hr rfl h69
      obtain ⟨b1, b2⟩ := D_65_c a1 a2 h65
      unfold unG
      rw [if_neg (fun q => by have := t100.mp q; omega), if_pos ⟨by omega, by omega, fun q => q⟩]
      rw [hN]
      exact ⟨fun _ => ⟨hv, b2, b1⟩, fun e => absurd rfl e⟩
end RS
/-- behind a number or a fact of the reference: as far as * and / go -/
def rQ2 (B : Nat → Int32) (n : Nat) (M : pMem) (v : Int32) (N : pMem) : Prop := ∀ (k : Nat) (o : List Cd), rR M B n k → rcd M (rcO o) →
  (v = kI 0 ∧ ∃ k' o', rR N B n k' ∧ rcd N (rcO o') ∧ ¬ (yT B n k' = kI 42 ∨ yT B n k' = kI 47) ∧ ∀ w r, suR (yT B n) (yV B n) w k' o' r → suR (yT B n) (yV B n) w k o r) ∨
  (∃ f k' o', f ≠ 0 ∧ rNo B n N v f k' ∧ ∀ w, suR (yT B n) (yV B n) w k o (f, k', o'))
theorem S_71_2w {B : Nat → Int32} {n : Nat} {P2 : pMem → pT Int32} (hP : ∀ M v N, P2 M v N → rQ2 B n M v N) {M : pMem} {v : Int32} {N : pMem} (hs : S_71_2 P2 M v N) : rQ2 B n M v N := by
  intro k o hr ho
  have s42 := rR_sg hr (s := 42) (by decide) (by decide)
  have s47 := rR_sg hr (s := 47) (by decide) (by decide)
  -- behind the sign t: u is what is read
  have unit : ∀ {t : Int32} {code : Nat} {M1 M2 : pMem} {v2 : Int32}, yT B n k = t → (t = kI 42 ∧ code = 4 ∨ t = kI 47 ∧ code = 5) → rR M1 B n (k + 1) → rcd M1 (rcO o) → (t = kI 47 → yT B n (k + 1) = kI 100 ∧ ¬ yV B n (k + 1) = kI 0) → D_70 M1 v2 M2 →
      (tIf (¬ v2 = (kI (-1))) (tCall (D_69 (kI code) (kI 0) M2) fun _ M3 => P2 M3) (tRet (kI (-1)) M2)) v N →
      (v = kI 0 ∧ ∃ k' o', rR N B n k' ∧ rcd N (rcO o') ∧ ¬ (yT B n k' = kI 42 ∨ yT B n k' = kI 47) ∧ ∀ w r, suR (yT B n) (yV B n) w k' o' r → suR (yT B n) (yV B n) w k o r) ∨
      (∃ f k' o', f ≠ 0 ∧ rNo B n N v f k' ∧ ∀ w, suR (yT B n) (yV B n) w k o (f, k', o')) := by
    intro t code M1 M2 v2 ht hc r1 o1 hd h70 hs
    have u := D_70_w r1 o1 h70
    have cm : yT B n k = kI 42 ∨ yT B n k = kI 47 := by rw [ht]; exact hc.elim (fun q => Or.inl q.1) (fun q => Or.inr q.1)
    -- a number that is no 0 is read alike behind a /
    have same : unG (yT B n) (yV B n) False (k + 1) o = unG (yT B n) (yV B n) (yT B n k = kI 47) (k + 1) o := by
      by_cases e : yT B n k = kI 47
      · obtain ⟨q1, q2⟩ := hd (by rw [← ht]; exact e)
        unfold unG
        rw [if_pos q1, if_pos q1, if_neg (fun q => q.1), if_neg (fun q => q2 q.2)]
      · exact unG_cg ⟨fun q => q.elim, fun q => e q⟩
    have hm : mC (yT B n k) = [(code, kI 0)] := by
      rw [ht]
      unfold mC
      rcases hc with ⟨q1, q2⟩ | ⟨q1, q2⟩
      · rw [if_pos q1, q2]
      · rw [if_neg (by rw [q1]; decide), if_pos q1, q2]
    rw [same] at u
    rcases hs with ⟨g, _, M3, h69, hs⟩ | ⟨g, hv, hN⟩
    · have r0 := rE_ok u g
      obtain ⟨_, a2, a3⟩ := u.1 r0
      obtain ⟨b1, b2⟩ := D_69_c (q := (code, kI 0)) a3 a2 (by rcases hc with ⟨_, q2⟩ | ⟨_, q2⟩ <;> rw [q2] <;> rfl) h69
      rw [← hm] at b1
      rcases hP _ _ _ hs _ _ b2 b1 with ⟨e1, k', o', e2, e3, e4, e5⟩ | ⟨f, k', o', e1, e2, e3⟩
      · exact Or.inl ⟨e1, k', o', e2, e3, e4, fun w r hr => suR_mul cm (Or.inr ⟨r0, e5 w r hr⟩)⟩
      · exact Or.inr ⟨f, k', o', e1, e2, fun w => suR_mul cm (Or.inr ⟨r0, e3 w⟩)⟩
    · have r1 := rE_no u (Classical.not_not.mp g)
      obtain ⟨d1, d2, d3⟩ := u.2 r1
      refine Or.inr ⟨_, _, _, r1, ?_, fun w => suR_mul cm (Or.inl ⟨r1, rfl⟩)⟩
      rw [hN]
      exact ⟨hv, d2, d3⟩
  -- behind / : no number, or 0
  have f68 : ∀ {x : Int32}, ¬ f_68 (kI 42) M = 0 → yT B n k = x → x = kI 42 := fun g e => by rw [← e]; exact s42.mp g
  rcases hs with ⟨g, _, M1, h65, hs⟩ | ⟨g, hs⟩
  · have tt := s42.mp g
    obtain ⟨o1, r1⟩ := D_65_c ho hr h65
    have hs := tIf_p g hs
    have hs := tIf_p g hs
    obtain ⟨v2, M2, h70, hs⟩ := hs
    refine unit (t := kI 42) (code := 4) tt (Or.inl ⟨rfl, rfl⟩) r1 o1 (fun e => absurd e (by decide)) h70 ?_
    rcases hs with ⟨g2, hs⟩ | ⟨g2, hs⟩
    · exact Or.inl ⟨g2, tIf_n g hs⟩
    · exact Or.inr ⟨g2, hs⟩
  · have n42 : ¬ yT B n k = kI 42 := fun e => absurd (s42.mpr e) g
    have g0 := Classical.not_not.mp g
    rcases hs with ⟨g2, hv, hN⟩ | ⟨g2, _, M1, h65, hs⟩
    · refine Or.inl ⟨hv, k, o, by rw [hN]; exact hr, by rw [hN]; exact ho, fun q => q.elim n42 (fun q => absurd g2 (s47.mpr q)), fun w r h => h⟩
    · have tt := s47.mp g2
      have cm : yT B n k = kI 42 ∨ yT B n k = kI 47 := Or.inr tt
      obtain ⟨o1, r1⟩ := D_65_c ho hr h65
      have hs := tIf_n g hs
      obtain ⟨m1, m2⟩ := rR_num r1
      rcases hs with ⟨g3, hs⟩ | ⟨g3, v2, M2, h66, hv, hN⟩
      · have hs := tIf_n g hs
        have t100 := m1.mp g3
        rcases hs with ⟨g4, v2, M2, h70, hs⟩ | ⟨g4, v2, M2, h66, hv, hN⟩
        · rw [m2 g3] at g4
          refine unit (t := kI 47) (code := 5) tt (Or.inr ⟨rfl, rfl⟩) r1 o1 (fun _ => ⟨t100, g4⟩) h70 ?_
          rcases hs with ⟨g5, hs⟩ | ⟨g5, hs⟩
          · exact Or.inl ⟨g5, tIf_p g0 hs⟩
          · exact Or.inr ⟨g5, hs⟩
        · have g4 := Classical.not_not.mp g4
          rw [m2 g3] at g4
          have e : unG (yT B n) (yV B n) (yT B n k = kI 47) (k + 1) o = (2, k + 1, o) := by
            unfold unG
            rw [if_pos t100, if_pos ⟨tt, g4⟩]
          refine Or.inr ⟨2, k + 1, o, by decide, ?_, fun w => suR_mul cm (Or.inl ⟨by rw [e]; exact (show (2 : Nat) ≠ 0 by decide), e.symm⟩)⟩
          rw [hN, hv]
          exact D_66_w (f := 2) r1 h66
      · have n100 : ¬ yT B n (k + 1) = kI 100 := fun q => g3 (m1.mpr q)
        have e : unG (yT B n) (yV B n) (yT B n k = kI 47) (k + 1) o = (1, k + 1, o) := by
          unfold unG
          rw [if_neg n100, if_neg (fun q => q.2.2 tt)]
        refine Or.inr ⟨1, k + 1, o, by decide, ?_, fun w => suR_mul cm (Or.inl ⟨by rw [e]; exact (show (1 : Nat) ≠ 0 by decide), e.symm⟩)⟩
        rw [hN, hv]
        exact D_66_w (f := 1) r1 h66
/-- numbers and facts with * and / between, of the reference -/
theorem D_71_w {M : pMem} {B : Nat → Int32} {n k : Nat} {o : List Cd} {v : Int32} {N : pMem} (hr : rR M B n k) (ho : rcd M (rcO o)) (hD : D_71 M v N) :
    (v = kI 0 ∧ ∃ k' o', rR N B n k' ∧ rcd N (rcO o') ∧ ¬ (yT B n k' = kI 42 ∨ yT B n k' = kI 47) ∧ ∀ w s r, ¬ s = kI 42 → ¬ s = kI 47 → suR (yT B n) (yV B n) w k' o' r → suP (yT B n) (yV B n) w s k o r) ∨
    (∃ f k' o', f ≠ 0 ∧ rNo B n N v f k' ∧ ∀ w s, ¬ s = kI 42 → ¬ s = kI 47 → suP (yT B n) (yV B n) w s k o (f, k', o')) := by
  obtain ⟨v1, M1, h70, hs⟩ := hD
  have u := D_70_w hr ho h70
  have cg : ∀ s : Int32, ¬ s = kI 47 → unG (yT B n) (yV B n) False k o = unG (yT B n) (yV B n) (s = kI 47) k o := fun s hs => unG_cg ⟨fun q => q.elim, fun q => hs q⟩
  rcases hs with ⟨g, hs⟩ | ⟨g, hv, hN⟩
  · have r0 := rE_ok u g
    obtain ⟨_, a2, a3⟩ := u.1 r0
    have q : rQ2 B n M1 v N := hs (rQ2 B n) (fun _ _ _ h => S_71_2w (fun _ _ _ h => h) h)
    rcases q _ _ a2 a3 with ⟨e1, k', o', e2, e3, e4, e5⟩ | ⟨f, k', o', e1, e2, e3⟩
    · refine Or.inl ⟨e1, k', o', e2, e3, e4, fun w s r n1 n2 h => Or.inr ⟨by rw [← cg s n2]; exact r0, ?_⟩⟩
      rw [← cg s n2, mC_no n1 n2, List.append_nil]
      exact e5 w r h
    · refine Or.inr ⟨f, k', o', e1, e2, fun w s n1 n2 => Or.inr ⟨by rw [← cg s n2]; exact r0, ?_⟩⟩
      rw [← cg s n2, mC_no n1 n2, List.append_nil]
      exact e3 w
  · have r1 := rE_no u (Classical.not_not.mp g)
    obtain ⟨d1, d2, d3⟩ := u.2 r1
    refine Or.inr ⟨_, _, _, r1, ?_, fun w s n1 n2 => Or.inl ⟨by rw [← cg s n2]; exact r1, (cg s n2)⟩⟩
    rw [hN]
    exact ⟨hv, d2, d3⟩
theorem suR_w {T V : Nat → Int32} {w : Int32} {k : Nat} {o : List Cd} {r : Rs} (hm : ¬ (T k = kI 42 ∨ T k = kI 47)) (h : suR T V (kI 102) k (o ++ wqC w) r) : suR T V w k o r := by
  obtain ⟨a, n, e⟩ := h
  refine ⟨a, n, ?_⟩
  cases n with
  | zero =>
    rw [← e] at a
    exact absurd rfl a
  | succ n =>
    unfold suG at e ⊢
    rw [if_neg hm] at e ⊢
    have w0 : wqC (kI 102) = [] := rfl
    rw [w0, List.append_nil] at e
    exact e
def rQ72 (B : Nat → Int32) (n : Nat) (M : pMem) (v : Int32) (N : pMem) : Prop := ∀ (k : Nat) (o : List Cd), rR M B n k → rcd M (rcO o) → ¬ (yT B n k = kI 42 ∨ yT B n k = kI 47) → ∃ r, suR (yT B n) (yV B n) (kI 102) k o r ∧ rE N B n v r
theorem S_72_2w {B : Nat → Int32} {n : Nat} {P2 : pMem → pT Int32} (hP : ∀ M v N, P2 M v N → rQ72 B n M v N) {M : pMem} {v : Int32} {N : pMem} (hs : S_72_2 P2 M v N) : rQ72 B n M v N := by
  intro k o hr ho hm
  have s43 := rR_sg hr (s := 43) (by decide) (by decide)
  have s45 := rR_sg hr (s := 45) (by decide) (by decide)
  have w0 : wqC (kI 102) = [] := rfl
  have prod : ∀ {t : Int32} {code : Nat} {M1 M2 : pMem} {v2 : Int32} {u : Unit}, yT B n k = t → (t = kI 43 ∧ code = 2 ∨ t = kI 45 ∧ code = 3) → D_65 M u M1 → D_71 M1 v2 M2 →
      (tIf (¬ v2 = (kI (-1))) (tCall (D_69 (kI code) (kI 0) M2) fun _ M3 => P2 M3) (tRet (kI (-1)) M2)) v N → ∃ r, suR (yT B n) (yV B n) (kI 102) k o r ∧ rE N B n v r := by
    intro t code M1 M2 v2 u ht hc h65 h71 hs
    obtain ⟨o1, r1⟩ := D_65_c ho hr h65
    have ca : yT B n k = kI 43 ∨ yT B n k = kI 45 := by rw [ht]; exact hc.elim (fun q => Or.inl q.1) (fun q => Or.inr q.1)
    have n1 : ¬ yT B n k = kI 42 := fun q => hm (Or.inl q)
    have n2 : ¬ yT B n k = kI 47 := fun q => hm (Or.inr q)
    have hw : wqC (yT B n k) = [(code, kI 0)] := by
      rw [ht]
      unfold wqC
      rcases hc with ⟨q1, q2⟩ | ⟨q1, q2⟩
      · rw [if_pos q1, q2]
      · rw [if_neg (by rw [q1]; decide), if_pos q1, q2]
    rcases D_71_w r1 o1 h71 with ⟨e1, k', o', e2, e3, e4, e5⟩ | ⟨f, k', o', e1, e2, e3⟩
    · have hs := tIf_p (show ¬ v2 = kI (-1) by rw [e1]; decide) hs
      obtain ⟨_, M3, h69, hs⟩ := hs
      obtain ⟨b1, b2⟩ := D_69_c (q := (code, kI 0)) e3 e2 (by rcases hc with ⟨_, q2⟩ | ⟨_, q2⟩ <;> rw [q2] <;> rfl) h69
      rw [← hw] at b1
      obtain ⟨r, c1, c2⟩ := hP _ _ _ hs _ _ b2 b1 e4
      refine ⟨r, suR_add ca ?_, c2⟩
      rw [w0, List.append_nil]
      exact e5 _ _ _ n1 n2 (suR_w e4 c1)
    · obtain ⟨hv, hN⟩ := tIf_n (nn e2.1) hs
      refine ⟨(f, k', o'), suR_add ca (by rw [w0, List.append_nil]; exact e3 _ _ n1 n2), rE_bad ?_ e1⟩
      obtain ⟨d1, d2, d3⟩ := e2
      rw [hN]
      exact ⟨hv, d2, d3⟩
  rcases hs with ⟨g, hs⟩ | ⟨g, hs⟩
  · have tt := s43.mp g
    have v43 : M 188 28 = kI 43 := by
      have c := xRel_c (rR_t hr).1
      rw [tt, kI_toInt (by decide) (by decide)] at c
      rcases c with c | c | ⟨r, r29, c, c', _⟩ | c | c
      · omega
      · omega
      · omega
      · omega
      · exact c.2.2.2
    have hs := tIf_n (nn v43) hs
    obtain ⟨_, M1, h65, v2, M2, h71, hs⟩ := hs
    exact prod (code := 2) tt (Or.inl ⟨rfl, rfl⟩) h65 h71 hs
  · rcases hs with ⟨g2, hv, hN⟩ | ⟨g2, hs⟩
    · have c1 : ¬ (yT B n k = kI 43 ∨ yT B n k = kI 45) := fun q => q.elim (fun q => absurd (s43.mpr q) g) (fun q => absurd g2 (s45.mpr q))
      have e := suR_end (V := yV B n) (w := kI 102) (o := o) hm c1
      rw [w0, List.append_nil] at e
      exact ⟨_, e, fun _ => ⟨hv, by rw [hN]; exact hr, by rw [hN]; exact ho⟩, fun q => absurd rfl q⟩
    · have tt := s45.mp g2
      have v45 : ¬ M 188 28 = kI 43 := by
        have c := xRel_c (rR_t hr).1
        rw [yk (by decide) (by decide)]
        rw [tt, kI_toInt (by decide) (by decide)] at c
        rcases c with c | c | ⟨r, r29, c, c', _⟩ | c | c
        · omega
        · omega
        · omega
        · omega
        · rw [c.2.2.2, kI_toInt (by decide) (by decide)]
          omega
      have hs := tIf_p v45 hs
      obtain ⟨_, M1, h65, v2, M2, h71, hs⟩ := hs
      exact prod (code := 3) tt (Or.inr ⟨rfl, rfl⟩) h65 h71 hs
/-- E -/
theorem D_72_w {M : pMem} {B : Nat → Int32} {n k : Nat} {o : List Cd} {v : Int32} {N : pMem} (hr : rR M B n k) (ho : rcd M (rcO o)) (hD : D_72 M v N) : ∃ r, suS (yT B n) (yV B n) k o r ∧ rE N B n v r := by
  obtain ⟨v1, M1, h71, hs⟩ := hD
  have n1 : ¬ kI 102 = kI 42 := by decide
  have n2 : ¬ kI 102 = kI 47 := by decide
  rcases D_71_w hr ho h71 with ⟨e1, k', o', e2, e3, e4, e5⟩ | ⟨f, k', o', e1, e2, e3⟩
  · have hs := tIf_p (show ¬ v1 = kI (-1) by rw [e1]; decide) hs
    have q : rQ72 B n M1 v N := hs (rQ72 B n) (fun _ _ _ h => S_72_2w (fun _ _ _ h => h) h)
    obtain ⟨r, c1, c2⟩ := q _ _ e2 e3 e4
    exact ⟨r, e5 _ _ _ n1 n2 c1, c2⟩
  · obtain ⟨hv, hN⟩ := tIf_n (nn e2.1) hs
    obtain ⟨d1, d2, d3⟩ := e2
    refine ⟨(f, k', o'), e3 _ _ n1 n2, rE_bad ?_ e1⟩
    rw [hN]
    exact ⟨hv, d2, d3⟩
