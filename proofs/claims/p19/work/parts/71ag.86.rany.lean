/-! the reference reads B -/
theorem D_73_w {M : pMem} {B : Nat → Int32} {n k : Nat} {o : List Cd} {v : Int32} {N : pMem} (hr : rR M B n k) (ho : rcd M (rcO o)) (hD : D_73 M v N) : ∃ r, cmR (yT B n) (yV B n) k o r ∧ rE N B n v r := by
  obtain ⟨v1, M1, h72, hs⟩ := hD
  obtain ⟨r1, s1, e1⟩ := D_72_w hr ho h72
  rcases hs with ⟨g, hs⟩ | ⟨g, hv, hN⟩
  · have r0 := rE_ok e1 g
    obtain ⟨_, a2, a3⟩ := e1.1 r0
    have sg : ∀ s : Int, 60 ≤ s → s ≤ 62 → (¬ f_68 (kI s) M1 = 0 ↔ yT B n r1.2.1 = kI s) := fun s q1 q2 => rR_sg a2 (by omega) (by omega)
    have s60 := sg 60 (by decide) (by decide)
    have s61 := sg 61 (by decide) (by decide)
    have s62 := sg 62 (by decide) (by decide)
    have val : ∀ {s : Int}, 40 ≤ s → s ≤ 62 → yT B n r1.2.1 = kI s → M1 188 28 = kI s := by
      intro s q1 q2 e
      have c := xRel_c (rR_t a2).1
      rw [e, kI_toInt (by omega) (by omega)] at c
      rcases c with c | c | ⟨r, r29, c, c', _⟩ | c | c
      · omega
      · omega
      · omega
      · omega
      · exact c.2.2.2
    have second : ∀ {s code : Nat} {u : Unit} {M2 M3 : pMem} {v3 : Int32}, yT B n r1.2.1 = kI (s : Nat) → 60 ≤ s → s ≤ 62 → code = s - 54 → D_65 M1 u M2 → D_72 M2 v3 M3 →
        (tIf (¬ v3 = (kI (-1))) (tCall (D_69 (kI code) (kI 0) M3) fun _ M4 => tRet (kI 0) M4) (tRet (kI (-1)) M3)) v N → ∃ r, cmR (yT B n) (yV B n) k o r ∧ rE N B n v r := by
      intro s code u M2 M3 v3 ht q1 q2 hc h65 h72 hs
      have t1 : (yT B n r1.2.1).toInt = s := by rw [ht, kI_toInt (by omega) (by omega)]
      have tin : 60 ≤ (yT B n r1.2.1).toInt ∧ (yT B n r1.2.1).toInt ≤ 62 := by omega
      obtain ⟨b1, b2⟩ := D_65_c a3 a2 h65
      obtain ⟨r2, s2, e2⟩ := D_72_w b2 b1 h72
      rcases hs with ⟨g2, u', M4, h69, hv, hN⟩ | ⟨g2, hv, hN⟩
      · have r20 := rE_ok e2 g2
        obtain ⟨_, c2, c3⟩ := e2.1 r20
        have rc : rcC (code, kI 0) = [(kI code, kI 0)] := by
          have : code = 6 ∨ code = 7 ∨ code = 8 := by omega
          rcases this with e | e | e <;> rw [e] <;> rfl
        obtain ⟨d1, d2⟩ := D_69_c (q := (code, kI 0)) c3 c2 rc h69
        refine ⟨(0, r2.2.1, r2.2.2 ++ [(code, kI 0)]), ⟨r1, s1, Or.inr ⟨r0, Or.inr ⟨tin, r2, s2, Or.inr ⟨r20, ?_⟩⟩⟩⟩, fun _ => ⟨hv, by rw [hN]; exact d2, by rw [hN]; exact d1⟩, fun e => absurd rfl e⟩
        rw [t1, hc]
        rfl
      · have r21 := rE_no e2 (Classical.not_not.mp g2)
        obtain ⟨d1, d2, d3⟩ := e2.2 r21
        exact ⟨r2, ⟨r1, s1, Or.inr ⟨r0, Or.inr ⟨tin, r2, s2, Or.inl ⟨r21, rfl⟩⟩⟩⟩, fun e => absurd e r21, fun _ => ⟨hv, by rw [hN]; exact d2, by rw [hN]; exact d3⟩⟩
    rcases hs with ⟨g1, hs⟩ | ⟨g1, hs⟩
    · have t := s60.mp g1
      have hs := tIf_n (nn (val (by decide) (by decide) t)) hs
      obtain ⟨_, M2, h65, v3, M3, h72b, hs⟩ := hs
      exact second (s := 60) (code := 6) t (by decide) (by decide) rfl h65 h72b hs
    · rcases hs with ⟨g2, hs⟩ | ⟨g2, hs⟩
      · have t := s61.mp g2
        have vv := val (by decide) (by decide) t
        have hs := tIf_p (show ¬ M1 188 28 = kI 60 by rw [vv]; decide) hs
        have hs := tIf_n (nn vv) hs
        obtain ⟨_, M2, h65, v3, M3, h72b, hs⟩ := hs
        exact second (s := 61) (code := 7) t (by decide) (by decide) rfl h65 h72b hs
      · rcases hs with ⟨g3, hs⟩ | ⟨g3, v2, M2, h66, hv, hN⟩
        · have t := s62.mp g3
          have vv := val (by decide) (by decide) t
          have hs := tIf_p (show ¬ M1 188 28 = kI 60 by rw [vv]; decide) hs
          have hs := tIf_p (show ¬ M1 188 28 = kI 61 by rw [vv]; decide) hs
          obtain ⟨_, M2, h65, v3, M3, h72b, hs⟩ := hs
          exact second (s := 62) (code := 8) t (by decide) (by decide) rfl h65 h72b hs
        · have tout : ¬ (60 ≤ (yT B n r1.2.1).toInt ∧ (yT B n r1.2.1).toInt ≤ 62) := by
            intro q
            have : (yT B n r1.2.1).toInt = 60 ∨ (yT B n r1.2.1).toInt = 61 ∨ (yT B n r1.2.1).toInt = 62 := by omega
            rcases this with e | e | e
            · exact absurd (s60.mpr (kI_inj e)) g1
            · exact absurd (s61.mpr (kI_inj e)) g2
            · exact absurd (s62.mpr (kI_inj e)) g3
          refine ⟨(1, r1.2.1, r1.2.2), ⟨r1, s1, Or.inr ⟨r0, Or.inl ⟨tout, rfl⟩⟩⟩, ?_⟩
          rw [hN, hv]
          exact rE_bad (D_66_w (f := 1) a2 h66) (by decide)
  · have r1' := rE_no e1 (Classical.not_not.mp g)
    obtain ⟨d1, d2, d3⟩ := e1.2 r1'
    exact ⟨r1, ⟨r1, s1, Or.inl ⟨r1', rfl⟩⟩, fun e => absurd e r1', fun _ => ⟨hv, by rw [hN]; exact d2, by rw [hN]; exact d3⟩⟩
/-- what waits -/
def pnd (M : pMem) (S : List Nat) : Prop := (M 188 41).toInt = S.length ∧ ∀ i x, S.reverse[i]? = some x → M 212 i = kI (x : Nat)
theorem pnd_fr {M N : pMem} {S : List Nat} {L : List (Nat × Nat)} (h : pnd M S) (f : pFr L M N) (k : (pOut L 188 41 && pNo L 212) = true) : pnd N S := by
  simp only [Bool.and_eq_true] at k
  refine ⟨by rw [f 188 41 (by decide) rfl k.1]; exact h.1, fun i x hi => ?_⟩
  rw [f 212 i (by decide) rfl (pNo_out k.2 i)]
  exact h.2 i x hi
theorem pnd_top {M : pMem} {x : Nat} {S : List Nat} (h : pnd M (x :: S)) : M 212 S.length = kI (x : Nat) := by
  refine h.2 S.length x ?_
  rw [List.reverse_cons, List.getElem?_append_right (by rw [List.length_reverse]; exact Nat.le_refl _), List.length_reverse, Nat.sub_self]
  rfl
theorem pnd_pop {M N : pMem} {x : Nat} {S : List Nat} (h : pnd M (x :: S)) (h41 : (N 188 41).toInt = S.length) (h212 : ∀ i, N 212 i = M 212 i) : pnd N S := by
  refine ⟨h41, fun i y hi => ?_⟩
  rw [h212]
  refine h.2 i y ?_
  have hl := (List.getElem?_eq_some_iff.mp hi).1
  rw [List.reverse_cons, List.getElem?_append_left hl]
  exact hi
theorem D_74_w {M : pMem} {S : List Nat} (h : pnd M S) {x : Nat} {u : Unit} {N : pMem} (hD : D_74 (kI (x : Nat)) M u N) : pnd N (x :: S) := by
  obtain ⟨g, M1, e1, M2, e2, _, hN⟩ := hD
  obtain ⟨h1, h2⟩ := h
  have g2 := ix_in g
  rw [ix_of h1] at e1 g2
  rw [hN]
  refine ⟨?_, fun i y hi => ?_⟩
  · rw [e2, aPut_same, e1, aPut_cell (by decide), i_add1 (by omega), h1, List.length_cons]
    omega
  · rw [e2, aPut_cell (by decide), e1, aPut_row]
    rw [List.reverse_cons] at hi
    by_cases e : i = S.length
    · rw [if_pos e]
      rw [e, List.getElem?_append_right (by rw [List.length_reverse]; exact Nat.le_refl _), List.length_reverse, Nat.sub_self] at hi
      have := Option.some.inj hi
      rw [← this]
    · rw [if_neg e]
      have hlt := (List.getElem?_eq_some_iff.mp hi).1
      rw [List.length_append, List.length_reverse, List.length_singleton] at hlt
      rw [List.getElem?_append_left (by rw [List.length_reverse]; omega)] at hi
      exact h2 i y hi
/-- what settles puts: the leading ones of that kind -/
def q75 (x : Nat) (M N : pMem) : Prop := ∀ (S : List Nat) (L : List (Int32 × Int32)), (∀ y ∈ S, y ≤ 12) → pnd M S → rcd M L → (M 188 39).toInt = opn S → pnd N (S.dropWhile (· == x)) ∧ rcd N (L ++ List.replicate (lead x S) (kI (x : Nat), kI 0)) ∧ (N 188 39).toInt = (if x = 9 then opn (S.dropWhile (· == x)) else opn S : Nat)
theorem S_75_0w {x : Nat} (hx : x ≤ 11) {P0 : pMem → pT Unit} (hP : ∀ M v N, P0 M v N → q75 x M N) {M : pMem} {v : Unit} {N : pMem} (hs : S_75_0 (kI (x : Nat)) P0 M v N) : q75 x M N := by
  intro S L hS hp hc ho
  rcases hs with ⟨g, _, hN⟩ | ⟨g, gi, hs⟩
  · rw [i_le, hp.1, i_0] at g
    have e : S = [] := List.length_eq_zero_iff.mp (by omega)
    rw [e] at hp ho ⊢
    rw [hN]
    refine ⟨hp, by show rcd M (L ++ []); rw [List.append_nil]; exact hc, ?_⟩
    rw [ho]
    split <;> rfl
  · rw [i_le, hp.1, i_0] at g
    cases S with
    | nil => exact absurd (show ((0 : Nat) : Int) ≤ 0 by decide) g
    | cons y R =>
      have h41 : (M 188 41).toInt = ((R.length + 1 : Nat) : Int) := hp.1
      have rg := i_rg (M 188 41)
      have rg39 := i_rg (M 188 39)
      have ei : ix (M 188 41 - kI 1) = R.length := ix_of (by rw [i_sub (by rw [h41, kI1]; omega) (by rw [h41, kI1]; omega), h41, kI1]; omega)
      have top := pnd_top hp
      have hy := hS y List.mem_cons_self
      rw [ei, top] at hs
      have eyx : kI (y : Nat) = kI (x : Nat) ↔ y = x := by
        rw [yk (by omega) (by omega), kI_toInt (by omega) (by omega)]
        omega
      rcases hs with ⟨g2, _, hN⟩ | ⟨g2, M1, e1, u, M2, h69, hs⟩
      · have ne : ¬ y = x := fun q => g2 (eyx.mpr q)
        have b : (y == x) = false := by simp [ne]
        have d : (y :: R).dropWhile (· == x) = y :: R := by rw [List.dropWhile_cons, if_neg (by rw [b]; decide)]
        have l : lead x (y :: R) = 0 := by
          unfold lead
          rw [List.takeWhile_cons, if_neg (by rw [b]; decide)]
          rfl
        rw [d, l, hN]
        refine ⟨hp, by show rcd M (L ++ []); rw [List.append_nil]; exact hc, ?_⟩
        rw [ho]
        split <;> rfl
      · have e : y = x := eyx.mp (Classical.not_not.mp g2)
        subst e
        have b : (y == y) = true := by simp
        have d : (y :: R).dropWhile (· == y) = R.dropWhile (· == y) := by rw [List.dropWhile_cons, if_pos b]
        have l : lead y (y :: R) = lead y R + 1 := by
          unfold lead
          rw [List.takeWhile_cons, if_pos b, List.length_cons]
        have m1 : ∀ a j, ¬ (a = 188 ∧ j = 41) → M1 a j = M a j := fun a j q => by
          by_cases ea : a = 188
          · subst ea
            rw [e1, aPut_at (fun e => q ⟨rfl, e⟩)]
          · rw [e1, aPut_cell ea]
        have p1 : pnd M1 R := pnd_pop hp (by rw [e1, aPut_same, i_sub (by rw [h41, kI1]; omega) (by rw [h41, kI1]; omega), h41, kI1]; omega) (fun i => m1 212 i (by omega))
        have c1 : rcd M1 L := ⟨by rw [m1 188 38 (by omega)]; exact hc.1, fun i z hi => by rw [m1 210 _ (by omega), m1 211 _ (by omega)]; exact hc.2 i z hi⟩
        have c2 := D_69_w c1 h69
        have f := F_69 h69
        have p2 : pnd M2 R := pnd_fr p1 f (by decide +kernel)
        have o2 : M2 188 39 = M 188 39 := by rw [f 188 39 (by decide) rfl (by simp only [l_69, pOut_cons, pOut_nil, true_or, and_true]; omega)]; exact m1 188 39 (by omega)
        have on : opn (y :: R) = opn R + if y == 9 || y == 12 then 1 else 0 := opn_cons
        have fin : ∀ {M3 : pMem}, pnd M3 R → rcd M3 (L ++ [(kI (y : Nat), kI 0)]) → (M3 188 39).toInt = opn R → q75 y M3 N → (y = 9 ∨ opn (y :: R) = opn R) → pnd N ((y :: R).dropWhile (· == y)) ∧ rcd N (L ++ List.replicate (lead y (y :: R)) (kI (y : Nat), kI 0)) ∧ (N 188 39).toInt = (if y = 9 then opn ((y :: R).dropWhile (· == y)) else opn (y :: R) : Nat) := by
          intro M3 a1 a2 a3 a4 a5
          obtain ⟨t1, t2, t3⟩ := a4 R _ (fun z hz => hS z (List.mem_cons_of_mem _ hz)) a1 a2 a3
          rw [d, l, List.replicate_succ]
          refine ⟨t1, ?_, ?_⟩
          · rw [List.append_assoc] at t2
            exact t2
          · rw [t3]
            by_cases y9 : y = 9
            · rw [if_pos y9, if_pos y9]
            · rw [if_neg y9, if_neg y9, a5.resolve_left y9]
        have y9 : kI (y : Nat) = kI 9 ↔ y = 9 := by
          rw [yk (by decide) (by decide), kI_toInt (by omega) (by omega)]
          omega
        rcases hs with ⟨g3, hs⟩ | ⟨g3, M3, e3, hs⟩
        · have n9 : ¬ y = 9 := fun q => g3 (y9.mpr q)
          have n12 : ¬ y = 12 := by omega
          have oe : opn (y :: R) = opn R := by
            rw [on, if_neg (by simp [n9, n12])]
            rfl
          exact fin p2 c2 (by rw [o2, ho, oe]) (hP _ _ _ hs) (Or.inr oe)
        · have e9 := y9.mp (Classical.not_not.mp g3)
          have oe : opn (y :: R) = opn R + 1 := by rw [on, if_pos (by simp [e9])]
          have m3 : ∀ a j, ¬ (a = 188 ∧ j = 39) → M3 a j = M2 a j := fun a j q => by
            by_cases ea : a = 188
            · subst ea
              rw [e3, aPut_at (fun e => q ⟨rfl, e⟩)]
            · rw [e3, aPut_cell ea]
          refine fin ⟨by rw [m3 188 41 (by omega)]; exact p2.1, fun i z hi => by rw [m3 212 i (by omega)]; exact p2.2 i z hi⟩ ⟨by rw [m3 188 38 (by omega)]; exact c2.1, fun i z hi => by rw [m3 210 _ (by omega), m3 211 _ (by omega)]; exact c2.2 i z hi⟩ ?_ (hP _ _ _ hs) (Or.inl e9)
          rw [e3, aPut_same, o2, i_sub (by rw [ho, oe, kI1]; omega) (by rw [ho, oe, kI1]; have := hp.1; have : opn (y :: R) ≤ (y :: R).length := List.countP_le_length; omega), ho, oe, kI1]
          omega
