/-! the reference's B goes as the machine -/
def adj : List Nat → Prop
  | [] => True
  | x :: r => (x = 9 ∨ x = 12 ∨ (x = 10 ∧ (r = [] ∨ (∃ q, r = 11 :: q) ∨ ∃ q, r = 12 :: q)) ∨ (x = 11 ∧ (r = [] ∨ ∃ q, r = 12 :: q))) ∧ adj r
theorem adj_le : ∀ {S : List Nat}, adj S → ∀ y ∈ S, y ≤ 12
  | [], _, y, hy => absurd hy List.not_mem_nil
  | x :: r, h, y, hy => by
    rcases List.mem_cons.mp hy with e | e
    · rcases h.1 with q | q | q | q <;> omega
    · exact adj_le h.2 y e
theorem adj_split {S : List Nat} (h : adj S) (h9 : ∀ q, S ≠ 9 :: q) : ∃ W S2, S = W ++ S2 ∧ okWd W ∧ top12 S2 ∧ adj S2 := by
  cases S with
  | nil => exact ⟨[], [], rfl, Or.inl rfl, Or.inl rfl, trivial⟩
  | cons x r =>
    obtain ⟨a, b⟩ := h
    rcases a with e | e | ⟨e, c⟩ | ⟨e, c⟩
    · exact absurd (by rw [e]) (h9 r)
    · exact ⟨[], x :: r, rfl, Or.inl rfl, Or.inr ⟨r, by rw [e]⟩, ⟨Or.inr (Or.inl e), b⟩⟩
    · rcases c with c | ⟨q, c⟩ | ⟨q, c⟩
      · exact ⟨[10], [], by rw [e, c]; rfl, Or.inr (Or.inl rfl), Or.inl rfl, trivial⟩
      · rw [c] at b
        obtain ⟨b1, b2⟩ := b
        rcases b1 with b1 | b1 | ⟨b1, _⟩ | ⟨_, b1⟩
        · omega
        · omega
        · omega
        · exact ⟨[10, 11], q, by rw [e, c]; rfl, Or.inr (Or.inr (Or.inr rfl)), b1, b2⟩
      · exact ⟨[10], r, by rw [e]; rfl, Or.inr (Or.inl rfl), Or.inr ⟨q, c⟩, b⟩
    · exact ⟨[11], r, by rw [e]; rfl, Or.inr (Or.inr (Or.inl rfl)), c, b⟩
theorem adj_dw : ∀ {S : List Nat}, adj S → adj (S.dropWhile (· == 9)) ∧ ∀ q, S.dropWhile (· == 9) ≠ 9 :: q
  | [], _ => ⟨trivial, fun q e => by cases e⟩
  | x :: r, h => by
    rw [List.dropWhile_cons]
    by_cases e : (x == 9) = true
    · rw [if_pos e]
      exact adj_dw h.2
    · rw [if_neg e]
      refine ⟨h, fun q e2 => e ?_⟩
      injection e2 with e3 _
      rw [e3]
      rfl
def c12 (S : List Nat) : Nat := S.countP (· == 12)
theorem c12_cons {x : Nat} {S : List Nat} : c12 (x :: S) = c12 S + if x == 12 then 1 else 0 := by
  unfold c12
  rw [List.countP_cons]
theorem c12_dw {x : Nat} (hx : x ≠ 12) : ∀ {S : List Nat}, c12 (S.dropWhile (· == x)) = c12 S
  | [] => rfl
  | y :: r => by
    rw [List.dropWhile_cons]
    by_cases e : (y == x) = true
    · rw [if_pos e, c12_dw hx, c12_cons]
      have : y = x := by simpa using e
      rw [this, if_neg (by simp [hx])]
      omega
    · rw [if_neg e]
theorem c12_W {W S : List Nat} (hW : okWd W) : c12 (W ++ S) = c12 S := by
  rcases hW with rfl | rfl | rfl | rfl
  · rfl
  · show c12 (10 :: S) = _; rw [c12_cons]; rfl
  · show c12 (11 :: S) = _; rw [c12_cons]; rfl
  · show c12 (10 :: 11 :: S) = _; rw [c12_cons, c12_cons]; rfl
theorem c12_mem {S : List Nat} (hS : top12 S) : 12 ∈ S ↔ c12 S ≠ 0 := by
  rcases hS with rfl | ⟨R, rfl⟩
  · exact ⟨fun q => absurd q List.not_mem_nil, fun q => absurd rfl q⟩
  · refine ⟨fun _ => ?_, fun _ => List.mem_cons_self⟩
    rw [c12_cons, if_pos (show ((12 : Nat) == 12) = true from rfl)]
    omega
theorem rcO_rep {x : Nat} (hx : x = 10 ∨ x = 11) : ∀ {a : Nat}, rcO (rep a x) = List.replicate a (kI (x : Nat), kI 0)
  | 0 => rfl
  | a + 1 => by
    have ih := rcO_rep hx (a := a)
    have e : rep (a + 1) x = (x, kI 0) :: rep a x := rfl
    have e2 : rcO ((x, kI 0) :: rep a x) = rcC (x, kI 0) ++ rcO (rep a x) := rfl
    rw [e, e2, ih, List.replicate_succ]
    rcases hx with rfl | rfl <;> rfl
theorem rcO_nC {c : Nat} (hc : c ≤ 2147483647) : rcO (nC c) = List.replicate c (kI 9, kI 0) := by
  unfold nC
  by_cases e : c = 0
  · rw [if_pos e, e]
    rfl
  · rw [if_neg e, rcO_one]
    show List.replicate (kI (c : Nat)).toInt.toNat (kI 9, kI 0) = _
    rw [kI_toInt (by omega) (by omega)]
    rfl
theorem lead_le {x : Nat} {S : List Nat} : lead x S ≤ S.length := (List.takeWhile_sublist _).length_le
theorem opn_dw {x : Nat} (h9 : x ≠ 9) (h12 : x ≠ 12) : ∀ {S : List Nat}, opn (S.dropWhile (· == x)) = opn S
  | [] => rfl
  | y :: r => by
    rw [List.dropWhile_cons]
    by_cases e : (y == x) = true
    · rw [if_pos e, opn_dw h9 h12, opn_cons]
      have : y = x := by simpa using e
      rw [this, if_neg (by simp [h9, h12])]
      omega
    · rw [if_neg e]
/-- what it comes to -/
def r76 (B : Nat → Int32) (n : Nat) (N : pMem) (v : Int32) (t : Sm) : Prop :=
  (∃ k' o', t = (2, k', [], o', 0) ∧ v = kI 0 ∧ rR N B n k' ∧ rcd N (rcO o') ∧ N 188 39 = kI 0) ∨ ∃ k' S' o' f, t = (3, k', S', o', f) ∧ f ≠ 0 ∧ rNo B n N v f k'
def q76 (B : Nat → Int32) (n : Nat) (x1 x2 : Int32) (M : pMem) (v : Int32) (N : pMem) : Prop := ∀ (k : Nat) (o : List Cd) (S : List Nat), rR M B n k → rcd M (rcO o) → pnd M S → (M 188 39).toInt = opn S → x1.toInt = c12 S → adj S → (x2 = 0 → ∀ q, S ≠ 9 :: q) →
  ∃ t, sR (yT B n) (yV B n) (if x2 = 0 then 1 else 0, k, S, o, 0) t ∧ r76 B n N v t
theorem D_75_w {x : Nat} (hx : x ≤ 11) {M : pMem} {u : Unit} {N : pMem} (h : D_75 (kI (x : Nat)) M u N) : q75 x M N := by
  have h' : S_75_0 (kI (x : Nat)) (L_75_0 (kI (x : Nat))) M u N := h
  exact S_75_0w hx (fun M v N h => h (fun M v N => q75 x M N) (fun M v N hs => S_75_0w hx (fun _ _ _ h => h) hs)) h'
theorem S_76_1w {B : Nat → Int32} {n : Nat} {P1 : Int32 → Int32 → pMem → pT Int32} (hP : ∀ x1 x2 M v N, P1 x1 x2 M v N → q76 B n x1 x2 M v N) {x1 x2 : Int32} {M : pMem} {v : Int32} {N : pMem} (hs : S_76_1 P1 x1 x2 M v N) : q76 B n x1 x2 M v N := by
  intro k o S hr hc hp ho hb ha h9
  have sl : S.length ≤ 2147483647 := by
    have := i_rg (M 188 41)
    have := hp.1
    omega
  have sle := adj_le ha
  have w14 := rR_wd hr (r := 14) (by decide)
  have w13 := rR_wd hr (r := 13) (by decide)
  have w12 := rR_wd hr (r := 12) (by decide)
  have s40 := rR_sg hr (s := 40) (by decide) (by decide)
  have x14 : (xCw 14 : Int) = 23 := rfl
  have x13 : (xCw 13 : Int) = 22 := rfl
  have x12 : (xCw 12 : Int) = 21 := rfl
  rw [x14] at w14
  rw [x13] at w13
  rw [x12] at w12
  have oc : opn S ≤ S.length := List.countP_le_length
  have cc : c12 S ≤ S.length := List.countP_le_length
  -- settles
  have set : ∀ {x : Nat} {S1 : List Nat} {o1 : List Cd} {M1 M2 : pMem} {u : Unit}, x = 10 ∨ x = 11 → (∀ y ∈ S1, y ≤ 12) → rR M1 B n k → rcd M1 (rcO o1) → pnd M1 S1 → (M1 188 39).toInt = opn S1 → D_75 (kI (x : Nat)) M1 u M2 →
      rR M2 B n k ∧ rcd M2 (rcO (o1 ++ rep (lead x S1) x)) ∧ pnd M2 (S1.dropWhile (· == x)) ∧ (M2 188 39).toInt = opn (S1.dropWhile (· == x)) := by
    intro x S1 o1 M1 M2 u hx q1 q2 q3 q4 q5 hD
    obtain ⟨t1, t2, t3⟩ := D_75_w (x := x) (by omega) hD S1 _ q1 q4 q3 q5
    refine ⟨rR_fr q2 (F_75 hD) rfl (fun j => rfl), by rw [rcO_app, rcO_rep hx]; exact t2, t1, ?_⟩
    rw [t3, if_neg (by omega), opn_dw (by omega) (by omega)]
  have set9 : ∀ {k1 : Nat} {S1 : List Nat} {o1 : List Cd} {M1 M2 : pMem} {u : Unit}, (∀ y ∈ S1, y ≤ 12) → S1.length ≤ 2147483647 → rR M1 B n k1 → rcd M1 (rcO o1) → pnd M1 S1 → (M1 188 39).toInt = opn S1 → D_75 (kI 9) M1 u M2 →
      rR M2 B n k1 ∧ rcd M2 (rcO (stN S1 o1).2) ∧ pnd M2 (stN S1 o1).1 ∧ (M2 188 39).toInt = opn (stN S1 o1).1 := by
    intro k1 S1 o1 M1 M2 u q1 ql q2 q3 q4 q5 hD
    obtain ⟨t1, t2, t3⟩ := D_75_w (x := 9) (by decide) hD S1 _ q1 q4 q3 q5
    have ll := lead_le (x := 9) (S := S1)
    refine ⟨rR_fr q2 (F_75 hD) rfl (fun j => rfl), ?_, t1, ?_⟩
    · show rcd M2 (rcO (o1 ++ nC (lead 9 S1)))
      rw [rcO_app, rcO_nC (by omega)]
      exact t2
    · rw [t3, if_pos rfl]
      rfl
  -- a ( or a not is pushed
  have push : ∀ {x : Nat} {x1' : Int32} {M1 M2 M3 : pMem} {u1 u2 : Unit}, ¬ x2 = 0 → (yT B n k = kI 23 ∨ yT B n k = kI 40) → x = (if yT B n k = kI 23 then 9 else 12) → ¬ M 188 39 = kI 8 → M1 = aPut M 188 39 (M 188 39 + kI 1) → D_74 (kI (x : Nat)) M1 u1 M2 → D_65 M2 u2 M3 → (x1'.toInt = c12 (x :: S)) → P1 x1' x2 M3 v N →
      ∃ t, sR (yT B n) (yV B n) (if x2 = 0 then 1 else 0, k, S, o, 0) t ∧ r76 B n N v t := by
    intro x x1' M1 M2 M3 u1 u2 n2 hT hx n8 e1 h74 h65 hx1 hs
    have m1 : ∀ a j, ¬ (a = 188 ∧ j = 39) → M1 a j = M a j := fun a j q => by
      by_cases ea : a = 188
      · subst ea
        rw [e1, aPut_at (fun e => q ⟨rfl, e⟩)]
      · rw [e1, aPut_cell ea]
    have f1 : pFr [(188, 39)] M M1 := fun a j _ _ q => by
      simp only [pOut_cons, pOut_nil, true_or, and_true] at q
      exact m1 a j (by omega)
    have p2 := D_74_w (pnd_fr hp f1 (by decide +kernel)) h74
    have f2 := F_74 h74
    have f3 := F_65 h65
    have r1 : rR M2 B n k := rR_fr (rR_fr hr f1 rfl (fun j => rfl)) f2 rfl (fun j => rfl)
    have c2 : rcd M2 (rcO o) := rcd_fr (rcd_fr hc f1 (by decide +kernel)) f2 (by decide +kernel)
    have hx' : x = 9 ∨ x = 12 := by
      rw [hx]
      split
      · exact Or.inl rfl
      · exact Or.inr rfl
    have op : opn (x :: S) = opn S + 1 := by
      rw [opn_cons]
      rcases hx' with e | e <;> rw [e] <;> rfl
    have o3 : (M3 188 39).toInt = opn (x :: S) := by
      rw [f3 188 39 (by decide) rfl (by simp only [l_65, pOut_cons, pOut_nil, true_or, and_true]; omega), f2 188 39 (by decide) rfl (by simp only [l_74, pOut_cons, pOut_nil, true_or, and_true]; omega), e1, aPut_same, op]
      have pl := p2.1
      have rg := i_rg (M2 188 41)
      rw [List.length_cons] at pl
      rw [i_add1 (by omega), ho]
      omega
    obtain ⟨t, s1, s2⟩ := hP _ _ _ _ _ hs (k + 1) o (x :: S) (rR_next r1 h65) (rcd_fr c2 f3 (by decide +kernel)) (pnd_fr p2 f3 (by decide +kernel)) o3 hx1 ⟨by rcases hx' with e | e <;> simp [e], ha⟩ (fun q => absurd q n2)
    rw [if_neg n2] at s1 ⊢
    refine ⟨t, sR_tr (sR_one (Or.inl ⟨rfl, Or.inr (Or.inl ⟨hT, ?_, ?_⟩)⟩)) s1, s2⟩
    · show ¬ opn S = 8
      intro q
      exact n8 (kI_inj (by rw [ho, q]; rfl))
    · rw [hx]
  have full : ∀ {v1 : Int32} {M1 : pMem}, ¬ x2 = 0 → (yT B n k = kI 23 ∨ yT B n k = kI 40) → M 188 39 = kI 8 → D_66 (kI 3) M v1 M1 → v = v1 → N = M1 → ∃ t, sR (yT B n) (yV B n) (if x2 = 0 then 1 else 0, k, S, o, 0) t ∧ r76 B n N v t := by
    intro v1 M1 n2 hT e8 hD hv hN
    rw [if_neg n2]
    refine ⟨_, sR_one (Or.inl ⟨rfl, Or.inl ⟨hT, ?_, rfl⟩⟩), Or.inr ⟨_, _, _, _, rfl, by decide, by rw [hv, hN]; exact D_66_w (f := 3) hr hD⟩⟩
    show opn S = 8
    rw [e8, kI_toInt (by decide) (by decide)] at ho
    omega
  rcases hs with ⟨g, hs⟩ | ⟨g, hs⟩
  · -- behind a claim
    have h9 := h9 g
    obtain ⟨W, S2, eS, hW, hS2, a2⟩ := adj_split ha h9
    rw [if_pos g]
    have stepM : ∀ {t : Sm}, t = (if yT B n k = kI 22 then (0, k + 1, 10 :: (stA S o).1, (stA S o).2, 0)
        else if yT B n k = kI 21 then (0, k + 1, 11 :: (stO S o).1, (stO S o).2, 0)
        else if ¬ 12 ∈ (stO S o).1 then (2, k, (stO S o).1, (stO S o).2, 0)
        else if ¬ yT B n k = kI 41 then (3, k, (stO S o).1, (stO S o).2, 1)
        else (1, k + 1, (stN (stO S o).1.tail (stO S o).2).1, (stN (stO S o).1.tail (stO S o).2).2, 0)) → stM (yT B n) (yV B n) (1, k, S, o, 0) t := fun e => Or.inr ⟨rfl, e⟩
    have so := stO_W (o := o) hW hS2
    rw [← eS] at so
    rcases hs with ⟨g1, hs⟩ | ⟨g1, u1, M1, ha1, u2, M2, h74, u3, M3, h65, hs⟩
    · have n22 : ¬ yT B n k = kI 22 := fun e => absurd g1 (w13.mpr e)
      rcases hs with ⟨g2, u1, M1, ha1, u2, M2, ha2, hs⟩ | ⟨g2, u1, M1, ha1, u2, M2, ha2, u3, M3, h74, u4, M4, h65, hs⟩
      · have n21 : ¬ yT B n k = kI 21 := fun e => absurd g2 (w12.mpr e)
        obtain ⟨b1, b2, b3, b4⟩ := set (Or.inl rfl) sle hr hc hp ho ha1
        have le1 : ∀ y ∈ S.dropWhile (· == 10), y ≤ 12 := fun y hy => sle y ((List.dropWhile_sublist _).subset hy)
        obtain ⟨d1, d2, d3, d4⟩ := set (Or.inr rfl) le1 b1 b2 b3 b4 ha2
        have e1 : (S.dropWhile (· == 10)).dropWhile (· == 11) = (stO S o).1 := rfl
        have e2 : o ++ rep (lead 10 S) 10 ++ rep (lead 11 (S.dropWhile (· == 10))) 11 = (stO S o).2 := rfl
        rw [e1] at d3 d4
        rw [e2] at d2
        have c2 : c12 S = c12 S2 := by rw [eS, c12_W hW]
        have s41 := rR_sg d1 (s := 41) (by decide) (by decide)
        have mem := c12_mem hS2
        rcases hs with ⟨g3, hs⟩ | ⟨g3, hv, hN⟩
        · have m12 : 12 ∈ (stO S o).1 := by
            rw [so]
            refine mem.mpr fun q => g3 ?_
            rw [i_eq, i_0, hb, c2, q]
            rfl
          rcases hs with ⟨g4, M3, e3, M4, e4, u3, M5, ha9, u4, M6, h65, hs⟩ | ⟨g4, v3, M3, h66, hv, hN⟩
          · have t41 := s41.mp g4
            -- the ( is popped
            rw [so] at d2 d3 d4 m12
            obtain ⟨R, eR⟩ : ∃ R, S2 = 12 :: R := by
              rcases hS2 with q | q
              · rw [q] at m12
                exact absurd m12 List.not_mem_nil
              · exact q
            have d3 : pnd M2 (12 :: R) := by rw [← eR]; exact d3
            have d4 : (M2 188 39).toInt = opn (12 :: R) := by rw [← eR]; exact d4
            have aR : adj R := by rw [eR] at a2; exact a2.2
            have p2l : (M2 188 41).toInt = ((R.length + 1 : Nat) : Int) := d3.1
            have rg41 := i_rg (M2 188 41)
            have op12 : opn (12 :: R) = opn R + 1 := by rw [opn_cons]; rfl
            have oR : opn R ≤ R.length := List.countP_le_length
            have f34 : pFr [(188, 41), (188, 39)] M2 M4 := fun a j _ _ q => by
              simp only [pOut_cons, pOut_nil, true_or, and_true] at q
              by_cases ea : a = 188
              · subst ea
                rw [e4, aPut_at (by omega), e3, aPut_at (by omega)]
              · rw [e4, aPut_cell ea, e3, aPut_cell ea]
            have p4 : pnd M4 R := pnd_pop d3 (by rw [e4, aPut_at (by decide), e3, aPut_same, i_sub (by rw [p2l, kI1]; omega) (by rw [p2l, kI1]; omega), p2l, kI1]; omega) (fun i => by rw [e4, aPut_cell (by decide), e3, aPut_cell (by decide)])
            have o4 : (M4 188 39).toInt = opn R := by
              rw [e4, aPut_same, e3, aPut_at (by decide), i_sub (by rw [d4, op12, kI1]; omega) (by rw [d4, op12, kI1]; omega), d4, op12, kI1]
              omega
            obtain ⟨f1, f2, f3, f4⟩ := set9 (adj_le aR) (by omega) (rR_fr d1 f34 rfl (fun j => rfl)) (rcd_fr d2 f34 (by decide +kernel)) p4 o4 ha9
            have f65 := F_65 h65
            obtain ⟨q1, q2⟩ := adj_dw aR
            have cR : c12 (12 :: R) = c12 R + 1 := by rw [c12_cons]; rfl
            have cs : c12 S = c12 R + 1 := by rw [c2, eR, cR]
            obtain ⟨t, s1, s2⟩ := hP _ _ _ _ _ hs (k + 1) _ _ (rR_next f1 h65) (rcd_fr f2 f65 (by decide +kernel)) (pnd_fr f3 f65 (by decide +kernel)) (by rw [f65 188 39 (by decide) rfl (by simp only [l_65, pOut_cons, pOut_nil, true_or, and_true]; omega)]; exact f4)
              (by rw [i_sub (by rw [hb, kI1]; omega) (by rw [hb, kI1]; omega), hb, kI1, show c12 (stN R (o ++ sW W)).1 = c12 R from c12_dw (by decide)]; omega) q1 (fun _ => q2)
            rw [if_pos g] at s1
            refine ⟨t, sR_tr (sR_one (stepM ?_)) s1, s2⟩
            rw [if_neg n22, if_neg n21, so, if_neg (nn m12), if_neg (nn t41), eR]
            rfl
          · have n41 : ¬ yT B n k = kI 41 := fun e => g4 (s41.mpr e)
            refine ⟨_, sR_one (stepM ?_), Or.inr ⟨k, (stO S o).1, (stO S o).2, 1, rfl, by decide, by rw [hv, hN]; exact D_66_w (f := 1) d1 h66⟩⟩
            rw [if_neg n22, if_neg n21, if_neg (nn m12), if_pos n41]
        · have m12 : ¬ 12 ∈ (stO S o).1 := by
            rw [so]
            intro q
            have g3 := Classical.not_not.mp g3
            rw [i_eq, i_0, hb, c2] at g3
            exact mem.mp q (by omega)
          have e0 : (stO S o).1 = [] := by
            rw [so] at m12 ⊢
            rcases hS2 with q | ⟨R, q⟩
            · exact q
            · rw [q] at m12
              exact absurd List.mem_cons_self m12
          rw [e0] at d4
          refine ⟨_, sR_one (stepM ?_), Or.inl ⟨k, (stO S o).2, rfl, hv, by rw [hN]; exact d1, by rw [hN]; exact d2, by rw [hN]; exact kI_inj d4⟩⟩
          rw [if_neg n22, if_neg n21, if_pos m12, e0]
      · have t21 := w12.mp g2
        obtain ⟨b1, b2, b3, b4⟩ := set (Or.inl rfl) sle hr hc hp ho ha1
        have le1 : ∀ y ∈ S.dropWhile (· == 10), y ≤ 12 := fun y hy => sle y ((List.dropWhile_sublist _).subset hy)
        obtain ⟨d1, d2, d3, d4⟩ := set (Or.inr rfl) le1 b1 b2 b3 b4 ha2
        have e1 : (S.dropWhile (· == 10)).dropWhile (· == 11) = (stO S o).1 := rfl
        have e2 : o ++ rep (lead 10 S) 10 ++ rep (lead 11 (S.dropWhile (· == 10))) 11 = (stO S o).2 := rfl
        rw [e1] at d3 d4
        rw [e2] at d2
        have f2 := F_74 h74
        have f3 := F_65 h65
        have p3 := D_74_w (x := 11) d3 h74
        rw [so] at d2 d4 p3
        obtain ⟨t, s1, s2⟩ := hP _ _ _ _ _ hs (k + 1) (o ++ sW W) (11 :: S2) (rR_next (rR_fr d1 f2 rfl (fun j => rfl)) h65) (rcd_fr (rcd_fr d2 f2 (by decide +kernel)) f3 (by decide +kernel)) (pnd_fr p3 f3 (by decide +kernel))
          (by rw [f3 188 39 (by decide) rfl (by simp only [l_65, pOut_cons, pOut_nil, true_or, and_true]; omega), f2 188 39 (by decide) rfl (by simp only [l_74, pOut_cons, pOut_nil, true_or, and_true]; omega), d4, opn_cons]; rfl)
          (by rw [hb, eS, c12_W hW, c12_cons]; rfl) ⟨Or.inr (Or.inr (Or.inr ⟨rfl, hS2⟩)), a2⟩ (fun q => absurd q (by decide))
        refine ⟨t, sR_tr (sR_one (stepM ?_)) s1, s2⟩
        rw [if_neg n22, if_pos t21, so, if_neg (by decide)]
    · have t22 := w13.mp g1
      obtain ⟨b1, b2, b3, b4⟩ := set (Or.inl rfl) sle hr hc hp ho ha1
      have e1 : S.dropWhile (· == 10) = (stA S o).1 := rfl
      have e2 : o ++ rep (lead 10 S) 10 = (stA S o).2 := rfl
      rw [e1] at b3 b4
      rw [e2] at b2
      have f2 := F_74 h74
      have f3 := F_65 h65
      have p3 := D_74_w (x := 10) b3 h74
      -- what is left of the stack
      have ad : adj (10 :: (stA S o).1) ∧ c12 (stA S o).1 = c12 S := by
        refine ⟨?_, c12_dw (by decide)⟩
        rw [eS]
        rcases hW with rfl | rfl | rfl | rfl
        · rw [(stA_W (o := o) (Or.inl rfl) hS2).1]
          exact ⟨Or.inr (Or.inr (Or.inl ⟨rfl, hS2.elim Or.inl (fun q => Or.inr (Or.inr q))⟩)), a2⟩
        · rw [show [10] ++ S2 = 10 :: ([] ++ S2) from rfl, (stA_W (o := o) (Or.inl rfl) hS2).2]
          exact ⟨Or.inr (Or.inr (Or.inl ⟨rfl, hS2.elim Or.inl (fun q => Or.inr (Or.inr q))⟩)), a2⟩
        · rw [(stA_W (o := o) (Or.inr rfl) hS2).1]
          exact ⟨Or.inr (Or.inr (Or.inl ⟨rfl, Or.inr (Or.inl ⟨_, rfl⟩)⟩)), ⟨Or.inr (Or.inr (Or.inr ⟨rfl, hS2⟩)), a2⟩⟩
        · rw [show [10, 11] ++ S2 = 10 :: ([11] ++ S2) from rfl, (stA_W (o := o) (Or.inr rfl) hS2).2]
          exact ⟨Or.inr (Or.inr (Or.inl ⟨rfl, Or.inr (Or.inl ⟨_, rfl⟩)⟩)), ⟨Or.inr (Or.inr (Or.inr ⟨rfl, hS2⟩)), a2⟩⟩
      obtain ⟨t, s1, s2⟩ := hP _ _ _ _ _ hs (k + 1) (stA S o).2 (10 :: (stA S o).1) (rR_next (rR_fr b1 f2 rfl (fun j => rfl)) h65) (rcd_fr (rcd_fr b2 f2 (by decide +kernel)) f3 (by decide +kernel)) (pnd_fr p3 f3 (by decide +kernel))
        (by rw [f3 188 39 (by decide) rfl (by simp only [l_65, pOut_cons, pOut_nil, true_or, and_true]; omega), f2 188 39 (by decide) rfl (by simp only [l_74, pOut_cons, pOut_nil, true_or, and_true]; omega), b4, opn_cons]; rfl)
        (by rw [hb, c12_cons, ad.2]; rfl) ad.1 (fun q => absurd q (by decide))
      refine ⟨t, sR_tr (sR_one (stepM ?_)) s1, s2⟩
      rw [if_pos t22, if_neg (by decide)]
  · -- a claim is due
    rcases hs with ⟨g1, hs⟩ | ⟨g1, hs⟩
    · have t23 := w14.mp g1
      rcases hs with ⟨g2, M1, e1, hs⟩ | ⟨g2, v1, M1, h66, hv, hN⟩
      · have hs := tIf_p g1 hs
        have hs := tIf_n g1 hs
        obtain ⟨u1, M2, h74, u2, M3, h65, hs⟩ := hs
        exact push (x := 9) g (Or.inl t23) (by rw [if_pos t23]) g2 e1 h74 h65 (by rw [hb, c12_cons]; rfl) hs
      · exact full g (Or.inl t23) (Classical.not_not.mp g2) h66 hv hN
    · have n23 : ¬ yT B n k = kI 23 := fun e => g1 (w14.mpr e)
      have g1' := Classical.not_not.mp g1
      rcases hs with ⟨g2, v1, M1, h73, hs⟩ | ⟨g2, hs⟩
      · have n40 : ¬ yT B n k = kI 40 := fun e => absurd g2 (s40.mpr e)
        have n2340 : ¬ (yT B n k = kI 23 ∨ yT B n k = kI 40) := fun q => q.elim n23 n40
        obtain ⟨r, c1, c2⟩ := D_73_w hr hc h73
        have f := F_73 h73
        rw [if_neg g]
        rcases hs with ⟨g3, u2, M2, ha9, hs⟩ | ⟨g3, hv, hN⟩
        · have r0 := rE_ok c2 g3
          obtain ⟨_, d2, d3⟩ := c2.1 r0
          obtain ⟨f1, f2, f3, f4⟩ := set9 sle sl d2 d3 (pnd_fr hp f (by decide +kernel)) (by rw [f 188 39 (by decide) rfl (by simp only [l_73, pOut_cons, pOut_nil, true_or, and_true]; omega)]; exact ho) ha9
          obtain ⟨q1, q2⟩ := adj_dw ha
          obtain ⟨t, s1, s2⟩ := hP _ _ _ _ _ hs r.2.1 _ _ f1 f2 f3 f4 (by rw [hb, show c12 (stN S r.2.2).1 = c12 S from c12_dw (by decide)]) q1 (fun _ => q2)
          rw [if_pos (show kI 0 = 0 from rfl)] at s1
          exact ⟨t, sR_tr (sR_one (Or.inl ⟨rfl, Or.inr (Or.inr ⟨n2340, r, c1, Or.inr ⟨r0, rfl⟩⟩)⟩)) s1, s2⟩
        · have r1 := rE_no c2 (Classical.not_not.mp g3)
          obtain ⟨d1, d2, d3⟩ := c2.2 r1
          exact ⟨_, sR_one (Or.inl ⟨rfl, Or.inr (Or.inr ⟨n2340, r, c1, Or.inl ⟨r1, rfl⟩⟩)⟩), Or.inr ⟨_, _, _, _, rfl, r1, hv, by rw [hN]; exact d2, by rw [hN]; exact d3⟩⟩
      · have t40 := s40.mp g2
        rcases hs with ⟨g3, M1, e1, hs⟩ | ⟨g3, v1, M1, h66, hv, hN⟩
        · have hs := tIf_n g1 hs
          have hs := tIf_p g1' hs
          obtain ⟨u1, M2, h74, u2, M3, h65, hs⟩ := hs
          have q40 : S.length < 40 := by
            have q := h74.1.2
            rw [e1, aPut_at (by decide), hp.1] at q
            omega
          exact push (x := 12) g (Or.inr t40) (by rw [if_neg n23]) g3 e1 h74 h65 (by rw [c12_cons, if_pos (show ((12 : Nat) == 12) = true from rfl), i_add1 (by omega), hb]; omega) hs
        · exact full g (Or.inr t40) (Classical.not_not.mp g3) h66 hv hN
theorem D_76_w {M : pMem} {B : Nat → Int32} {n k : Nat} {o : List Cd} {v : Int32} {N : pMem} (hr : rR M B n k) (hc : rcd M (rcO o)) (ho : M 188 39 = kI 0) (h : D_76 M v N) : ∃ t, sR (yT B n) (yV B n) (0, k, [], o, 0) t ∧ r76 B n N v t := by
  obtain ⟨M1, e1, h⟩ := h
  have f1 : pFr [(188, 41)] M M1 := fun a j _ _ q => by
    simp only [pOut_cons, pOut_nil, true_or, and_true] at q
    rw [e1]
    by_cases ea : a = 188
    · subst ea
      exact aPut_at (by omega)
    · exact aPut_cell ea
  have q : q76 B n (kI 0) (kI 1) M1 v N := h (q76 B n) (fun _ _ _ _ _ hs => S_76_1w (fun _ _ _ _ _ h => h) hs)
  have := q k o [] (rR_fr hr f1 rfl (fun j => rfl)) (rcd_fr hc f1 (by decide +kernel)) ⟨by rw [e1, aPut_same]; rfl, fun i x hi => by cases hi⟩ (by rw [e1, aPut_at (by decide), ho]; rfl) rfl trivial (fun q => absurd q (by decide))
  exact this
