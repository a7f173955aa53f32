/-! the class reads E -/
def okW (w : Int32) : Prop := w = kI 102 ∨ w = kI 43 ∨ w = kI 45
def okS (s : Int32) : Prop := s = kI 102 ∨ s = kI 42 ∨ s = kI 47 ∨ s = kI 43 ∨ s = kI 45
theorem mC_st {s : Int32} : (stC (mC s)).length = (mC s).length ∧ (mC s).length ≤ 1 := by
  unfold mC
  repeat' split
  all_goals exact ⟨rfl, by decide⟩
theorem wqC_st {w : Int32} : (stC (wqC w)).length = (wqC w).length ∧ (wqC w).length ≤ 1 := by
  unfold wqC
  repeat' split
  all_goals exact ⟨rfl, by decide⟩
def sQ1 (B : Nat → Int32) (n c : Nat) (x1 x2 x3 : Int32) (M : pMem) (v : Int32) (N : pMem) : Prop := ∀ (k i : Nat) (o : List Cd), x3.toInt = i → 2 * i ≤ k → k ≤ 500 → rdR M B n c k → stp M (stC o) → (stC o).length + (wqC x1).length + (mC x2).length ≤ k → okW x1 → okS x2 →
  ∃ r, suP (yT B n) (yV B n) x1 x2 k o r ∧ cX M N B n c k o ((wqC x1).length + (mC x2).length) v r
def sQ10 (B : Nat → Int32) (n c : Nat) (x1 x3 : Int32) (M : pMem) (v : Int32) (N : pMem) : Prop := ∀ (k i : Nat) (o : List Cd), x3.toInt = i → 2 * i + 1 ≤ k → k ≤ 500 → rdR M B n c k → stp M (stC o) → (stC o).length + (wqC x1).length ≤ k → okW x1 →
  ∃ r, suR (yT B n) (yV B n) x1 k o r ∧ cX M N B n c k o (wqC x1).length v r
theorem S_179_1w {B : Nat → Int32} {n c : Nat} {P1 : Int32 → Int32 → Int32 → pMem → pT Int32} {P10 : Int32 → Int32 → pMem → pT Int32} (h10 : ∀ x1 x3 M v N, P10 x1 x3 M v N → sQ10 B n c x1 x3 M v N) {x1 x2 x3 : Int32} {M : pMem} {v : Int32} {N : pMem} (hs : S_179_1 P1 P10 x1 x2 x3 M v N) : sQ1 B n c x1 x2 x3 M v N := by
  intro k i o hx hik hk hr hst hl hw hsg
  rcases hs with ⟨g, _⟩ | ⟨_, hs⟩
  · rw [i_le, hx, kI_toInt (by decide) (by decide)] at g
    omega
  · -- behind a number or a fact
    have go : ∀ {p v1 : Int32} {M1 : pMem}, (¬ p = 0 ↔ x2 = kI 47) → D_180 p M v1 M1 → (tIf (¬ v1 = 0) (tIf (x2 = (kI 42)) (tCall (D_155 7 (-x2) M1) fun _ M2 => P10 x1 x3 M2) (tIf (¬ x2 = (kI 47)) (P10 x1 x3 M1) (tCall (D_155 7 (-x2) M1) fun _ M2 => P10 x1 x3 M2))) (tRet (kI 0) M1)) v N →
        ∃ r, suP (yT B n) (yV B n) x1 x2 k o r ∧ cX M N B n c k o ((wqC x1).length + (mC x2).length) v r := by
      intro p v1 M1 hp h180 hs
      obtain ⟨u1, u2⟩ := D_180_w ⟨hr, hst, by omega⟩ h180
      rw [unG_cg hp] at u1 u2
      rcases hs with ⟨g1, hs⟩ | ⟨g1, hv, hN⟩
      · have r0 := cX_ok u1 g1
        obtain ⟨a1, a2, a3, a4, a5, a6, a7, a8⟩ := u1.1 r0
        obtain ⟨b1, b2, b3⟩ := u2 g1
        have hu : ∃ u, u = unG (yT B n) (yV B n) (x2 = kI 47) k o := ⟨_, rfl⟩
        obtain ⟨⟨uf, uk, uo⟩, hu⟩ := hu
        rw [← hu] at a4 a5 b1 b3 r0
        have b1 : uk = k + 1 := b1
        have b3 : (stC uo).length = (stC o).length + 1 := b3
        have a4 : rdR M1 B n c uk := a4
        have a5 : stp M1 (stC uo) := a5
        have r0 : uf = 0 := r0
        -- a sign joins at once
        have join : ∀ {q : Cd} {x : Int32} {w : Unit} {M2 : pMem}, mC x2 = [q] → stpC q = [x] → D_155 7 x M1 w M2 → P10 x1 x3 M2 v N → ∃ r, suP (yT B n) (yV B n) x1 x2 k o r ∧ cX M N B n c k o ((wqC x1).length + (mC x2).length) v r := by
          intro q x w M2 hm hq h155 hs
          rw [hm, List.length_singleton] at hl
          obtain ⟨c1, c2, c3, c4⟩ := cL_put ⟨a4, a5, by omega⟩ hq (by omega) h155
          obtain ⟨r, r1, r2⟩ := h10 _ _ _ _ _ hs uk i (uo ++ [q]) hx (by omega) (by omega) c1 c2 (by omega) hw
          refine ⟨r, Or.inr ⟨by rw [← hu]; exact r0, by rw [← hu, hm]; exact r1⟩, ?_⟩
          rw [hm, List.length_singleton]
          exact cX_then r2 (by rw [c3]; exact a2) (by rw [c3]; exact a3) (by omega) (by omega)
        rcases hs with ⟨g2, w, M2, h155, hs⟩ | ⟨g2, hs⟩
        · exact join (q := (4, kI 0)) (by unfold mC; rw [if_pos g2]) (by rw [g2]; rfl) h155 hs
        · rcases hs with ⟨g3, hs⟩ | ⟨g3, w, M2, h155, hs⟩
          · have hm := mC_no g2 g3
            rw [hm, List.length_nil] at hl
            obtain ⟨r, r1, r2⟩ := h10 _ _ _ _ _ hs uk i uo hx (by omega) (by omega) a4 a5 (by omega) hw
            refine ⟨r, Or.inr ⟨by rw [← hu]; exact r0, by rw [← hu, hm, List.append_nil]; exact r1⟩, ?_⟩
            rw [hm, List.length_nil]
            exact cX_then r2 a2 a3 (by omega) (by omega)
          · have g3 := Classical.not_not.mp g3
            exact join (q := (5, kI 0)) (by unfold mC; rw [if_neg g2, if_pos g3]) (by rw [g3]; rfl) h155 hs
      · have r1 := cX_no u1 (Classical.not_not.mp g1)
        refine ⟨_, Or.inl ⟨r1, rfl⟩, fun e => absurd e r1, fun _ => ?_⟩
        obtain ⟨d1, d2, d3⟩ := u1.2 r1
        rw [hN]
        exact ⟨hv, d2, d3⟩
    rcases hs with ⟨g, v1, M1, h180, hs⟩ | ⟨g, v1, M1, h180, hs⟩
    · exact go (p := kI 0) ⟨fun q => absurd rfl q, fun q => absurd q g⟩ h180 hs
    · exact go (p := kI 1) ⟨fun _ => Classical.not_not.mp g, fun _ => by decide⟩ h180 hs
theorem S_179_10w {B : Nat → Int32} {n c : Nat} {P1 : Int32 → Int32 → Int32 → pMem → pT Int32} {P10 : Int32 → Int32 → pMem → pT Int32} (h1 : ∀ x1 x2 x3 M v N, P1 x1 x2 x3 M v N → sQ1 B n c x1 x2 x3 M v N) {x1 x3 : Int32} {M : pMem} {v : Int32} {N : pMem} (hs : S_179_10 P1 P10 x1 x3 M v N) : sQ10 B n c x1 x3 M v N := by
  intro k i o hx hik hk hr hst hl hw
  obtain ⟨ht, _, _⟩ := zR_t hr
  unfold S_179_10 at hs
  rw [ht] at hs
  generalize ht' : yT B n k = t at *
  have nx : (x3 + kI 1).toInt = ((i + 1 : Nat) : Int) := by rw [i_add1 (by omega), hx]; omega
  have mul : (t = kI 42 ∨ t = kI 47) → ∀ {M1 : pMem}, M1 = aPut M 6 3 (M 6 3 + kI 1) → P1 x1 t (x3 + kI 1) M1 v N → ∃ r, suR (yT B n) (yV B n) x1 k o r ∧ cX M N B n c k o (wqC x1).length v r := by
    intro ct M1 e hs
    have hT : ¬ yT B n k = kI 101 := by rw [ht']; rcases ct with ct | ct <;> rw [ct] <;> decide
    obtain ⟨b1, b2, b3, b4, b5⟩ := cl_adv hr hst hT e
    have m1 := (mC_st (s := t)).2
    have ok : okS t := by rcases ct with ct | ct <;> rw [ct] <;> unfold okS <;> simp
    obtain ⟨r, r1, r2⟩ := h1 _ _ _ _ _ _ hs (k + 1) (i + 1) o nx (by omega) (by omega) b1 b2 (by omega) hw ok
    exact ⟨r, suR_mul (by rw [ht']; exact ct) (by rw [ht']; exact r1), cX_then r2 b3 b4 (by omega) (by omega)⟩
  -- + and -, or none of all
  have tail : ∀ {M' : pMem}, ¬ (t = kI 42 ∨ t = kI 47) → rdR M' B n c k → stp M' (stC (o ++ wqC x1)) → M' 6 4 = M 6 4 → M' 6 5 = M 6 5 → (tIf (t = (kI 43)) (tPut (aPut M' 6 3 ((M' 6 3) + (kI 1))) fun M1 => P1 t t (x3 + kI 1) M1) (tIf (t = (kI 45)) (tPut (aPut M' 6 3 ((M' 6 3) + (kI 1))) fun M1 => P1 t t (x3 + kI 1) M1) (tRet (kI 1) M'))) v N →
      ∃ r, suR (yT B n) (yV B n) x1 k o r ∧ cX M N B n c k o (wqC x1).length v r := by
    intro M' nm hr' hst' q4 q5 hs
    have ol : (stC (o ++ wqC x1)).length = (stC o).length + (wqC x1).length := by rw [stC_app, List.length_append, (wqC_st (w := x1)).1]
    have add : (t = kI 43 ∨ t = kI 45) → ∀ {M1 : pMem}, M1 = aPut M' 6 3 (M' 6 3 + kI 1) → P1 t t (x3 + kI 1) M1 v N → ∃ r, suR (yT B n) (yV B n) x1 k o r ∧ cX M N B n c k o (wqC x1).length v r := by
      intro ct M1 e hs
      have hT : ¬ yT B n k = kI 101 := by rw [ht']; rcases ct with ct | ct <;> rw [ct] <;> decide
      obtain ⟨b1, b2, b3, b4, b5⟩ := cl_adv hr' hst' hT e
      have m0 : mC t = [] := mC_no (fun q => nm (Or.inl q)) (fun q => nm (Or.inr q))
      have w1 := (wqC_st (w := t)).2
      have ok : okS t := by rcases ct with ct | ct <;> rw [ct] <;> unfold okS <;> simp
      have okw : okW t := by rcases ct with ct | ct <;> rw [ct] <;> unfold okW <;> simp
      have m0l : (mC t).length = 0 := by rw [m0]; rfl
      obtain ⟨r, r1, r2⟩ := h1 _ _ _ _ _ _ hs (k + 1) (i + 1) (o ++ wqC x1) nx (by omega) (by omega) b1 b2 (by omega) okw ok
      exact ⟨r, suR_add (by rw [ht']; exact ct) (by rw [ht']; exact r1), cX_then r2 (b3.trans q4) (b4.trans q5) (by omega) (by omega)⟩
    rcases hs with ⟨g, M1, e, hs⟩ | ⟨g, hs⟩
    · exact add (Or.inl g) e hs
    · rcases hs with ⟨g2, M1, e, hs⟩ | ⟨g2, hv, hN⟩
      · exact add (Or.inr g2) e hs
      · refine ⟨_, suR_end (by rw [ht']; exact nm) (by rw [ht']; exact fun q => q.elim g g2), fun _ => ⟨hv, by rw [hN]; exact q4, by rw [hN]; exact q5, by rw [hN]; exact hr', by rw [hN]; exact hst', ?_, Nat.le_refl _, hk⟩, fun e => absurd rfl e⟩
        show (stC (o ++ wqC x1)).length + k ≤ (stC o).length + (wqC x1).length + k
        omega
  rcases hs with ⟨g, M1, e, hs⟩ | ⟨g, hs⟩
  · exact mul (Or.inl g) e hs
  · rcases hs with ⟨g2, M1, e, hs⟩ | ⟨g2, hs⟩
    · exact mul (Or.inr g2) e hs
    · have nm : ¬ (t = kI 42 ∨ t = kI 47) := fun q => q.elim g g2
      rcases hs with ⟨g3, hs⟩ | ⟨g3, w, M1, h155, hs⟩
      · have w0 : wqC x1 = [] := by rw [g3]; rfl
        exact tail nm hr (by rw [w0, List.append_nil]; exact hst) rfl rfl hs
      · obtain ⟨q, hq, hx1⟩ : ∃ q, wqC x1 = [q] ∧ stpC q = [-x1] := by
          rcases hw with e | e | e
          · exact absurd e g3
          · rw [e]; exact ⟨(2, kI 0), rfl, rfl⟩
          · rw [e]; exact ⟨(3, kI 0), rfl, rfl⟩
        rw [hq, List.length_singleton] at hl
        obtain ⟨c1, c2, c3, c4⟩ := cL_put ⟨hr, hst, by omega⟩ hx1 (by omega) h155
        exact tail nm c1 (by rw [hq]; exact c2) (by rw [c3]) (by rw [c3]) hs
theorem D_179_w {M : pMem} {B : Nat → Int32} {n c k : Nat} {o : List Cd} (h : cL M B n c k o) (hk : k ≤ 500) {v : Int32} {N : pMem} (hD : D_179 M v N) : ∃ r, suS (yT B n) (yV B n) k o r ∧ cX M N B n c k o 0 v r :=
  hD (sQ1 B n c, sQ10 B n c) ⟨fun _ _ _ _ _ _ hs => S_179_1w (fun _ _ _ _ _ h => h) hs, fun _ _ _ _ _ hs => S_179_10w (fun _ _ _ _ _ _ h => h) hs⟩ k 0 o rfl (by omega) hk h.1 h.2.1 h.2.2 (Or.inl rfl) (Or.inl rfl)
