/-! friends: both sides -/
theorem ne1 {j : Nat} (h : j < 24) : ¬ kI (j : Nat) = kI (-1) := kIn1 (by omega)
/-- the class finds the friends of a boy -/
def q185 (w : Nat) (M V : pMem) (o : List Cd) (L : List Ln) (b j : Nat) (M' : pMem) : Prop := frT (cnF V b) (wtF o L V b) j (M' 136) ∧ (∀ k, k < 3 → ∀ i, i < j → M' 136 k = kI (i : Nat) → M' 137 k = wtF o L V b i) ∧ ∀ a, (a < 132 ∨ 137 < a) → M' a = M a
/-- what of the class stays, but for the stack of a law -/
def q185a (w l : Nat) (M V : pMem) (o : List Cd) (L : List Ln) (b j : Nat) (M' : pMem) : Prop := frT (cnF V b) (wtF o L V b) j (M' 136) ∧ (∀ k, k < 3 → ∀ i, i < j → M' 136 k = kI (i : Nat) → M' 137 k = wtF o L V b i) ∧ ∀ a, (a < 132 ∨ 137 < a) → a ≠ l + 6 → M' a = M a
theorem fil136 {p1 : Int32} {M v N} (h : D_240_136 p1 M v N) : (∀ k, k < 3 → N 136 k = p1) ∧ ∀ b, b ≠ 136 → N b = M b := by
  have q := h (fun x2 x3 M' v N => ∀ i : Nat, x2.toInt = i → i ≤ 3 → x3 = Int32.ofNat 3 → (∀ k, k < i → M' 136 k = p1) → (∀ b, b ≠ 136 → M' b = M b) → (∀ k, k < 3 → N 136 k = p1) ∧ ∀ b, b ≠ 136 → N b = M b) ?_
  · exact q 0 rfl (Nat.zero_le _) rfl (fun k hk => absurd hk (Nat.not_lt_zero k)) (fun _ _ => rfl)
  · intro x2 x3 M' v N hs i hi hi3 h3 hk hb
    have k3 : (Int32.ofNat 3).toInt = 3 := rfl
    rcases hs with ⟨g, _, hN⟩ | ⟨g, _, M1, e1, hs⟩
    · rw [h3, i_le, hi, k3] at g
      rw [hN]
      exact ⟨fun k hk2 => hk k (by omega), hb⟩
    · rw [h3, i_le, hi, k3] at g
      rw [ix_of hi] at e1
      refine hs (i + 1) (n_add1 hi (by omega)) (by omega) h3 (fun k hk2 => ?_) (fun b hb2 => ?_)
      · rw [e1, aPut_row]
        by_cases e : k = i
        · rw [if_pos e]
        · rw [if_neg e]
          exact hk k (by omega)
      · rw [← hb b hb2, e1]
        funext j
        exact aPut_cell hb2
theorem wCell2 {w : Nat} (h : pK 10 w = true) : ∀ j, j < 5 → (w + j < 132 ∨ 137 < w + j) := fun j hj => by
  have := wCell h j hj
  omega
theorem D_185_v {w l : Nat} (hw : pK 10 w = true) (hl : pK 2 l = true) {M V : pMem} (hV : rV V) (h : rW w M V) {o : List Cd} {L : List Ln} (hc : cLk M l o L) {p3 : Int32} {b : Nat} (hb : p3.toInt = b) (hb24 : b < 24) {v N} (hD : D_185 w l p3 M v N) :
    (∀ k, k < 3 → N 136 k = frs o L V b k) ∧ frT (cnF V b) (wtF o L V b) 24 (N 136) ∧ ∀ a, (a < 132 ∨ 137 < a) → a ≠ l + 6 → N a = M a := by
  obtain ⟨_, M1, hf, hD⟩ := hD
  obtain ⟨f1, f2⟩ := fil136 hf
  have lc := lCell hl
  -- what is asked stands as it stood
  have keep : ∀ {M' : pMem}, (∀ a, (a < 132 ∨ 137 < a) → a ≠ l + 6 → M' a = M a) → rW w M' V ∧ cLk M' l o L := fun hk =>
    ⟨rW_eq h fun j hj => hk _ (wCell2 hw j hj) (fun e => lwCell hl hw 6 (by decide) j hj e.symm), cLk_c hc fun a h1 h2 => hk a (by omega) (by omega)⟩
  have q := hD (fun x4 M' v N => ∀ j : Nat, x4.toInt = j → j ≤ 24 → q185a w l M V o L b j M' → q185a w l M V o L b 24 N) ?_
  · have q := q 0 rfl (Nat.zero_le _) ⟨frT_0 f1 (fun c hc => absurd hc (Nat.not_lt_zero c)), fun k _ i hi => absurd hi (Nat.not_lt_zero i), fun a h1 _ => f2 a (by omega)⟩
    exact ⟨frs_of q.1, q.1, q.2.2⟩
  · intro x4 M' v N hs j hj hj24 hq
    obtain ⟨q1, q2, q3⟩ := hq
    obtain ⟨kW, kL⟩ := keep q3
    -- from here on nobody
    have rest : (∀ c, j ≤ c → c < 24 → cnF V b c = false) → q185a w l M V o L b 24 M' := fun hn =>
      ⟨frT_ext hj24 hn q1, fun k hk i hi e => by
        rcases q1 k hk with ⟨r1, _⟩ | ⟨i', p1, p2, p3, _⟩
        · rw [e] at r1
          exact absurd r1 (ne1 hi)
        · have := kIn (by omega) (by omega) (e.symm.trans p3)
          exact q2 k hk i (by omega) e, q3⟩
    rcases hs with ⟨g, _, hN⟩ | ⟨g, hs⟩
    · have g := (f37_th hV kW hb hb24).1.mp g
      rw [hN]
      refine rest fun c _ _ => ?_
      unfold cnF
      rw [g]
      rfl
    · have g := (f37_th hV kW hb hb24).2.mp g
      rcases hs with ⟨g2, _, hN⟩ | ⟨g2, hs⟩
      · rw [i_le, hj, kI_toInt (by decide) (by decide)] at g2
        rw [hN]
        exact rest fun c h1 h2 => by omega
      · rw [i_le, hj, kI_toInt (by decide) (by decide)] at g2
        have skip : cnF V b j = false → q185a w l M V o L b (j + 1) M' := fun e =>
          ⟨frT_no e q1, fun k hk i hi e2 => by
            by_cases ei : i = j
            · subst ei
              rcases q1 k hk with ⟨r1, _⟩ | ⟨i', p1, p2, p3, _⟩
              · rw [e2] at r1
                exact absurd r1 (ne1 (by omega))
              · have := kIn (by omega) (by omega) (e2.symm.trans p3)
                omega
            · exact q2 k hk i (by omega) e2, q3⟩
        rcases hs with ⟨g3, hs⟩ | ⟨g3, hs⟩
        · refine hs (j + 1) (n_add1 hj (by omega)) (by omega) (skip ?_)
          unfold cnF
          rw [decide_eq_true (show j = b by rw [i_eq, hj, hb] at g3; omega), Bool.not_true, Bool.and_false, Bool.and_false]
        · have ne : ¬ j = b := fun e => g3 (by rw [i_eq, hj, hb, e])
          rcases hs with ⟨g4, hs⟩ | ⟨g4, _, Ma, h166, _, v2, Mb, h157, _, Mc, h186, hs⟩
          · have g4 := (f37_th hV kW hj (by omega)).1.mp g4
            refine hs (j + 1) (n_add1 hj (by omega)) (by omega) (skip ?_)
            unfold cnF
            rw [g4, Bool.false_and, Bool.and_false]
          · have g4 := (f37_th hV kW hj (by omega)).2.mp g4
            have cy : cnF V b j = true := by
              unfold cnF
              rw [g, g4, decide_eq_false ne]
              rfl
            obtain ⟨a1, a2⟩ := D_166s_w hw hV kW hb hj hb24 (by omega) h166
            have aL : cLk Ma l o L := cLk_c kL fun a h1 h2 => a2 a (by omega)
            have d8 : Ma 135 (ix (kI 8)) = lkV V b j := a1 8 (by decide)
            rw [d8] at h157
            obtain ⟨b1, b2⟩ := D_157_v hl (by decide) aL a1 h157
            have wv : v2 = wtF o L V b j := b1
            obtain ⟨p, p3, plo, phi, prow, pfr⟩ := D_186_v h186
            have r136 : Mb 136 = M' 136 := by rw [b2 136 (by omega), a2 136 (by decide)]
            have r137 : Mb 137 = M' 137 := by rw [b2 137 (by omega), a2 137 (by decide)]
            have ej : x4 = kI (j : Nat) := kI_inj hj
            -- what stands at a place
            have at_ : ∀ k, k < 3 → M' 136 k = kI (-1) ∨ ∃ i, i < j ∧ M' 136 k = kI (i : Nat) ∧ M' 137 k = wtF o L V b i := fun k hk => by
              rcases q1 k hk with ⟨r1, _⟩ | ⟨i, p1, p2, p3, _⟩
              · exact Or.inl r1
              · exact Or.inr ⟨i, p1, p3, q2 k hk i p1 p3⟩
            refine hs (j + 1) (n_add1 hj (by omega)) (by omega) ⟨frT_in (f := M' 136) (p := p) (by omega) cy q1 p3 (fun k h1 h2 => ?_) (fun k hk => ?_) (fun k hk => ?_), fun k hk i hi e => ?_, fun a h1 h2 => ?_⟩
            · rcases at_ k h2 with e | ⟨i, i1, i2, i3⟩
              · exact Or.inl e
              · rcases plo k h1 h2 with e | e
                · rw [r136] at e
                  exact Or.inl e
                · rw [r137, i3, wv, i_lt] at e
                  exact Or.inr ⟨i, i1, i2, e⟩
            · have np := phi k hk
              unfold ltP at np
              rw [r136, r137] at np
              rcases at_ k (by omega) with e | ⟨i, i1, i2, i3⟩
              · exact absurd (Or.inl e) np
              · refine ⟨i, i1, i2, ?_⟩
                rw [i3, wv, i_lt] at np
                omega
            · rw [(prow k hk).1, r136, ej]
            · -- the worths
              have e1 := (prow k hk).1
              have e2 := (prow k hk).2
              rw [r136] at e1
              rw [r137] at e2
              have old : ∀ k', k' < 3 → M' 136 k' = kI (i : Nat) → M' 137 k' = wtF o L V b i := fun k' hk' e' => by
                rcases at_ k' hk' with q | ⟨i', i1, i2, i3⟩
                · rw [e'] at q
                  exact absurd q (kIn1 (by omega))
                · have := kIn (by omega) (by omega) (e'.symm.trans i2)
                  rw [this]
                  exact i3
              by_cases c1 : k < p
              · rw [if_pos c1] at e1 e2
                rw [e2]
                exact old k hk (by rw [← e1]; exact e)
              · rw [if_neg c1] at e1 e2
                by_cases c2 : k = p
                · rw [if_pos c2] at e1 e2
                  rw [e1, ej] at e
                  have := kIn (by omega) (by omega) e
                  rw [e2, wv, this]
                · rw [if_neg c2] at e1 e2
                  rw [e2]
                  exact old (k - 1) (by omega) (by rw [← e1]; exact e)
            · rw [pfr a (by omega) (by omega), b2 a h2, a2 a (by omega)]
              exact q3 a h1 h2
/-! how many are of the other lot -/
def acF (V : pMem) (b : Nat) (f : Nat → Int32) (k : Nat) : Bool := !decide (f k = kI (-1)) && !decide (V 189 (ix (f k)) = V 189 b)
noncomputable def acr (o : List Cd) (L : List Ln) (V : pMem) (b : Nat) : Int32 := kI (cN (acF V b (frs o L V b)) 3 : Nat)
theorem acF_cg {V : pMem} {b : Nat} {f g : Nat → Int32} (h : ∀ k, k < 3 → f k = g k) : cN (acF V b f) 3 = cN (acF V b g) 3 := cN_cg fun k hk => by
  unfold acF
  rw [h k hk]
theorem D_187_v {w : Nat} {M V : pMem} (hV : rV V) (h : rW w M V) {C : Nat → Bool} {W : Nat → Int32} (hf : frT C W 24 (M 136)) {p2 : Int32} {b : Nat} (hb : p2.toInt = b) (hb24 : b < 24) {v N} (hD : D_187 w p2 M v N) : v = kI (cN (acF V b (M 136)) 3 : Nat) ∧ N = M := by
  have q := hD (fun x3 x4 M' v N => ∀ i : Nat, x4.toInt = i → i ≤ 3 → M' = M → x3 = kI (cN (acF V b (M 136)) i : Nat) → v = kI (cN (acF V b (M 136)) 3 : Nat) ∧ N = M) ?_
  · exact q 0 rfl (Nat.zero_le _) rfl rfl
  · intro x3 x4 M' v N hs i hi hi3 hM h3
    rw [hM] at hs
    have cs : cN (acF V b (M 136)) (i + 1) = cN (acF V b (M 136)) i + (if acF V b (M 136) i = true then 1 else 0) := rfl
    rcases hs with ⟨g, hv, hN⟩ | ⟨g, _, hs⟩
    · rw [i_le, hi, kI_toInt (by decide) (by decide)] at g
      have e : i = 3 := by omega
      rw [e] at h3
      exact ⟨hv.trans h3, hN⟩
    · rw [i_le, hi, kI_toInt (by decide) (by decide)] at g
      rw [ix_of hi] at hs
      rcases hs with ⟨g2, hs⟩ | ⟨g2, _, hs⟩
      · refine hs (i + 1) (n_add1 hi (by omega)) (by omega) rfl ?_
        have e : acF V b (M 136) i = false := by
          unfold acF
          rw [decide_eq_true g2]
          rfl
        rw [cs, e, h3]
        rfl
      · obtain ⟨j, j1, _, j3, _⟩ := (hf i (by omega)).resolve_left fun r => g2 r.1
        have tj : (M 136 i).toInt = (j : Nat) := by rw [j3, kI_toInt (by omega) (by omega)]
        have xj : ix (M 136 i) = j := ix_of tj
        rw [f225_V hV h tj j1, f225_V hV h hb hb24] at hs
        rcases hs with ⟨g3, hs⟩ | ⟨g3, hs⟩
        · refine hs (i + 1) (n_add1 hi (by omega)) (by omega) rfl ?_
          have e : acF V b (M 136) i = false := by
            unfold acF
            rw [xj, decide_eq_true g3, Bool.not_true, Bool.and_false]
          rw [cs, e, h3]
          rfl
        · refine hs (i + 1) (n_add1 hi (by omega)) (by omega) rfl ?_
          have e : acF V b (M 136) i = true := by
            unfold acF
            rw [xj, decide_eq_false g3, decide_eq_false g2]
            rfl
          rw [cs, if_pos e, h3, kI_n1]
          rfl
/-! the reference -/
/-- so far the best of those that are left -/
def bsT (C : Nat → Bool) (W : Nat → Int32) (f : Nat → Int32) (k j : Nat) (x : Int32) : Prop :=
  (x = kI (-1) ∧ ∀ c, c < j → C c = true → ∃ m, m < k ∧ f m = kI (c : Nat)) ∨
  (∃ i, i < j ∧ C i = true ∧ x = kI (i : Nat) ∧ (∀ m, m < k → f m ≠ kI (i : Nat)) ∧ ∀ c, c < j → C c = true → c ≠ i → (∀ m, m < k → f m ≠ kI (c : Nat)) → bts W i c)
theorem bsT_skip {C : Nat → Bool} {W f : Nat → Int32} {k j : Nat} {x : Int32} (h : bsT C W f k j x) (hj : C j = false ∨ ∃ m, m < k ∧ f m = kI (j : Nat)) : bsT C W f k (j + 1) x := by
  rcases h with ⟨h1, h2⟩ | ⟨i, i1, i2, i3, i4, i5⟩
  · refine Or.inl ⟨h1, fun c hc hy => ?_⟩
    by_cases e : c = j
    · subst e
      rcases hj with q | q
      · rw [q] at hy
        cases hy
      · exact q
    · exact h2 c (by omega) hy
  · refine Or.inr ⟨i, by omega, i2, i3, i4, fun c hc hy ne hn => ?_⟩
    by_cases e : c = j
    · subst e
      rcases hj with q | ⟨m, m1, m2⟩
      · rw [q] at hy
        cases hy
      · exact absurd m2 (hn m m1)
    · exact i5 c (by omega) hy ne hn
theorem bsT_new {C : Nat → Bool} {W f : Nat → Int32} {k j : Nat} {x : Int32} (h : bsT C W f k j x) (hC : C j = true) (hf : ∀ m, m < k → f m ≠ kI (j : Nat)) (hx : x = kI (-1) ∨ ∃ i, i < j ∧ x = kI (i : Nat) ∧ (W i).toInt < (W j).toInt) (hj : j < 24) : bsT C W f k (j + 1) (kI (j : Nat)) := by
  refine Or.inr ⟨j, by omega, hC, rfl, hf, fun c hc hy ne hn => ?_⟩
  rcases h with ⟨h1, h2⟩ | ⟨i, i1, i2, i3, i4, i5⟩
  · obtain ⟨m, m1, m2⟩ := h2 c (by omega) hy
    exact absurd m2 (hn m m1)
  · rcases hx with q | ⟨i', q1, q2, q3⟩
    · rw [q] at i3
      exact absurd i3.symm (kIn1 (by omega))
    · have := kIn (by omega) (by omega) (q2.symm.trans i3)
      subst this
      by_cases e : c = i'
      · subst e
        exact Or.inl q3
      · have b := i5 c (by omega) hy e hn
        unfold bts at b ⊢
        omega
theorem bsT_old {C : Nat → Bool} {W f : Nat → Int32} {k j i : Nat} {x : Int32} (h : bsT C W f k j x) (hx : x = kI (i : Nat)) (hi : i < 24) (hj : j < 24) (hw : (W j).toInt ≤ (W i).toInt) : bsT C W f k (j + 1) x := by
  rcases h with ⟨h1, h2⟩ | ⟨i', i1, i2, i3, i4, i5⟩
  · rw [hx] at h1
    exact absurd h1 (kIn1 (by omega))
  · have := kIn (by omega) (by omega) (hx.symm.trans i3)
    subst this
    refine Or.inr ⟨i, by omega, i2, i3, i4, fun c hc hy ne hn => ?_⟩
    by_cases e : c = j
    · subst e
      unfold bts
      omega
    · exact i5 c (by omega) hy ne hn
/-- the first k are found -/
def frK (C : Nat → Bool) (W : Nat → Int32) (n : Nat) (f : Nat → Int32) (k : Nat) : Prop := ∀ q, q < k → q < 3 →
  (f q = kI (-1) ∧ ∀ c, c < n → C c = true → ∃ m, m < q ∧ f m = kI (c : Nat)) ∨
  (∃ j, j < n ∧ C j = true ∧ f q = kI (j : Nat) ∧ (∀ m, m < q → f m ≠ kI (j : Nat)) ∧ ∀ c, c < n → C c = true → c ≠ j → (∀ m, m < q → f m ≠ kI (c : Nat)) → bts W j c)
theorem frK_put {C : Nat → Bool} {W f g : Nat → Int32} {n k : Nat} {x : Int32} (h : frK C W n f k) (hx : bsT C W f k n x) (hg : ∀ q, g q = if q = k then x else f q) : frK C W n g (k + 1) := by
  intro q hq h3
  have e : ∀ m, m < k → g m = f m := fun m hm => by rw [hg, if_neg (by omega)]
  by_cases c : q = k
  · subst c
    have gq : g q = x := by rw [hg, if_pos rfl]
    rcases hx with ⟨h1, h2⟩ | ⟨i, i1, i2, i3, i4, i5⟩
    · refine Or.inl ⟨gq.trans h1, fun c hc hy => ?_⟩
      obtain ⟨m, m1, m2⟩ := h2 c hc hy
      exact ⟨m, m1, by rw [e m m1]; exact m2⟩
    · exact Or.inr ⟨i, i1, i2, gq.trans i3, fun m hm => by rw [e m hm]; exact i4 m hm, fun c hc hy ne hn => i5 c hc hy ne fun m hm => by rw [← e m hm]; exact hn m hm⟩
  · rcases h q (by omega) h3 with ⟨f1, f2⟩ | ⟨j, j1, j2, j3, j4, j5⟩
    · refine Or.inl ⟨by rw [e q (by omega)]; exact f1, fun c hc hy => ?_⟩
      obtain ⟨m, m1, m2⟩ := f2 c hc hy
      exact ⟨m, m1, by rw [e m (by omega)]; exact m2⟩
    · exact Or.inr ⟨j, j1, j2, by rw [e q (by omega)]; exact j3, fun m hm => by rw [e m (by omega)]; exact j4 m hm, fun c hc hy ne hn => j5 c hc hy ne fun m hm => by rw [← e m (by omega)]; exact hn m hm⟩
/-- worths, friends: what is written over -/
def fr96 (M N : pMem) : Prop := (∀ a, a ≠ 216 → a ≠ 217 → a ≠ 188 → a ≠ 220 → a ≠ 221 → N a = M a) ∧ ∀ j, j ≠ 51 → N 188 j = M 188 j
theorem fr96_t {M N K : pMem} (h : fr96 M N) (g : fr96 N K) : fr96 M K := ⟨fun a h1 h2 h3 h4 h5 => (g.1 a h1 h2 h3 h4 h5).trans (h.1 a h1 h2 h3 h4 h5), fun j hj => (g.2 j hj).trans (h.2 j hj)⟩
theorem fr96_87 {M N : pMem} (h : fr87 M N) : fr96 M N := ⟨fun a h1 h2 h3 _ _ => h.1 a h1 h2 h3, h.2⟩
theorem fr96_p {M : pMem} {a j : Nat} {x : Int32} (h : a = 220 ∨ a = 221) : fr96 M (aPut M a j x) := ⟨fun b _ _ _ h4 h5 => by
  funext i
  exact aPut_cell (by omega), fun i _ => aPut_cell (by omega)⟩
theorem sc_96 {M N : pMem} (h : fr96 M N) : sc M N := fun a j h1 h2 => by
  by_cases e8 : a = 188
  · subst e8
    refine h.2 j fun e => ?_
    subst e
    exact absurd h2 (by decide)
  · have no : ∀ b, pScrA b = true → a ≠ b := fun b hb e => by
      subst e
      unfold pScr at h2
      rw [hb] at h2
      cases h2
    rw [h.1 a (no 216 rfl) (no 217 rfl) e8 (no 220 rfl) (no 221 rfl)]
theorem D_96_v {k : Nat} {o : List Cd} {L : List Ln} {M V : pMem} (hs0 : sc V M) (hV : rV V) (hc : rLk V k o L) {p1 : Int32} {b n : Nat} (hn : rNb V n) (hb : p1.toInt = b) (hbn : b < n) {v N} (h : D_96 p1 M v N) :
    (∀ q, q < 3 → N 221 q = frs o L V b q) ∧ frT (cnF V b) (wtF o L V b) n (N 221) ∧ fr96 M N := by
  obtain ⟨n24, hn2, hn3⟩ := id hn
  have fin : ∀ {N : pMem}, frK (cnF V b) (wtF o L V b) n (N 221) 3 ∧ fr96 M N → (∀ q, q < 3 → N 221 q = frs o L V b q) ∧ frT (cnF V b) (wtF o L V b) n (N 221) ∧ fr96 M N := fun {N} hq => by
    have t : frT (cnF V b) (wtF o L V b) n (N 221) := fun q hq2 => hq.1 q hq2 hq2
    refine ⟨frs_of (frT_ext n24 (fun c h1 h2 => ?_) t), t, hq.2⟩
    unfold cnF
    rw [thV_0 hn h1 h2, Bool.false_and, Bool.and_false]
  have q := h (fun x2 M' v N => ∀ j : Nat, x2.toInt = j → j ≤ n → fr96 M M' → (∀ c, c < j → cnF V b c = true → M' 220 c = wtF o L V b c) → frK (cnF V b) (wtF o L V b) n (N 221) 3 ∧ fr96 M N,
    fun x2 M' v N => ∀ kk : Nat, x2.toInt = kk → kk ≤ 3 → fr96 M M' → (∀ c, c < n → cnF V b c = true → M' 220 c = wtF o L V b c) → frK (cnF V b) (wtF o L V b) n (M' 221) kk → frK (cnF V b) (wtF o L V b) n (N 221) 3 ∧ fr96 M N,
    fun x2 x3 x4 M' v N => ∀ kk j : Nat, x2.toInt = kk → x4.toInt = j → kk < 3 → j ≤ n → fr96 M M' → (∀ c, c < n → cnF V b c = true → M' 220 c = wtF o L V b c) → frK (cnF V b) (wtF o L V b) n (M' 221) kk → bsT (cnF V b) (wtF o L V b) (M' 221) kk j x3 → frK (cnF V b) (wtF o L V b) n (N 221) 3 ∧ fr96 M N) ⟨?_, ?_, ?_⟩
  · exact fin (q 0 rfl (Nat.zero_le _) ⟨fun _ _ _ _ _ _ => rfl, fun _ _ => rfl⟩ (fun c hc => absurd hc (Nat.not_lt_zero c)))
  · intro x2 M' v N hs j hj hjn hf hw
    have hM := sc_t hs0 (sc_96 hf)
    have m2 : M' 188 2 = V 188 2 := sc_r8 hM (by decide) (by decide)
    rcases hs with ⟨g, hs⟩ | ⟨g, hs⟩
    · rw [m2, i_le, hj, hn2] at g
      exact hs 0 rfl (Nat.zero_le _) hf (fun c hc => hw c (by omega)) (fun q hq => absurd hq (Nat.not_lt_zero q))
    · rw [m2, i_le, hj, hn2] at g
      have no : cnF V b j = false → ∀ c, c < j + 1 → cnF V b c = true → M' 220 c = wtF o L V b c := fun e c hc hy => by
        by_cases q : c = j
        · rw [q, e] at hy
          cases hy
        · exact hw c (by omega) hy
      rcases hs with ⟨g2, hs⟩ | ⟨g2, _, hs⟩
      · refine hs (j + 1) (n_add1 hj (by omega)) (by omega) hf (no ?_)
        unfold cnF
        rw [decide_eq_true (show j = b by rw [i_eq, hj, hb] at g2; omega), Bool.not_true, Bool.and_false, Bool.and_false]
      · rw [(sc_rows hM).2.2.1, ix_of hj] at hs
        rcases hs with ⟨g3, v1, M1, h87, hs⟩ | ⟨g3, hs⟩
        · obtain ⟨_, _, a1, a2, a3⟩ := D_87_v (w := 19) (by decide) (by decide) (rLk_sc hM hc) hb hj h87
          rw [FcV_sc hM] at a1 a2
          have s1 := sc_t hM (sc_87 a3)
          have f1 := fr96_t hf (fr96_87 a3)
          have lk : M1 194 (24 * b + j) = lkV V b j := by rw [(sc_rows s1).2.2.2.1]; rfl
          rw [(ix24 hb hj (by omega) (by omega)).2, lk, a2] at hs
          have put : ∀ {M2 : pMem} {y : Int32}, y = wtF o L V b j → M2 = aPut M1 220 j y → fr96 M M2 ∧ ∀ c, c < j + 1 → cnF V b c = true → M2 220 c = wtF o L V b c := by
            intro M2 y ey e
            refine ⟨fr96_t f1 (by rw [e]; exact fr96_p (Or.inl rfl)), fun c hc hy => ?_⟩
            rw [e, aPut_row]
            by_cases q : c = j
            · rw [if_pos q, ey, q]
            · rw [if_neg q, a3.1 220 (by decide) (by decide) (by decide)]
              exact hw c (by omega) hy
          have tn : isT (FcV V b j) o (kI (19 : Nat)) L = 0 ↔ teL (FcV V b j) o (kI 19) L = none := by
            show (if teL (FcV V b j) o (kI 19) L = none then kI 0 else kI 1) = 0 ↔ _
            by_cases q : teL (FcV V b j) o (kI 19) L = none
            · rw [if_pos q]
              exact ⟨fun _ => q, fun _ => rfl⟩
            · rw [if_neg q]
              exact ⟨fun r => absurd r (by decide), fun r => absurd r q⟩
          rcases hs with ⟨g4, _, _, M2, e2, hs⟩ | ⟨g4, _, M2, e2, hs⟩
          · obtain ⟨p1, p2⟩ := put (by unfold wtF; rw [tn.mp g4]; rfl) e2
            exact hs (j + 1) (n_add1 hj (by omega)) (by omega) p1 p2
          · obtain ⟨p1, p2⟩ := put (by
              have ne := fun q => g4 (tn.mpr q)
              rw [a1]
              show (teL (FcV V b j) o (kI 19) L).getD 0 = (teL (FcV V b j) o (kI 19) L).getD (lkV V b j)
              cases e : teL (FcV V b j) o (kI 19) L with
              | none => exact absurd e ne
              | some z => rfl) e2
            exact hs (j + 1) (n_add1 hj (by omega)) (by omega) p1 p2
        · refine hs (j + 1) (n_add1 hj (by omega)) (by omega) hf (no ?_)
          unfold cnF thV
          rw [decide_eq_true (Classical.not_not.mp g3), Bool.not_true, Bool.false_and, Bool.and_false]
  · intro x2 M' v N hs kk hk hk3 hf hw hK
    rcases hs with ⟨g, _, hN⟩ | ⟨g, hs⟩
    · rw [i_le, hk, kI_toInt (by decide) (by decide)] at g
      have e : kk = 3 := by omega
      rw [e] at hK
      rw [hN]
      exact ⟨hK, hf⟩
    · rw [i_le, hk, kI_toInt (by decide) (by decide)] at g
      exact hs kk 0 hk rfl (by omega) (Nat.zero_le _) hf hw hK (Or.inl ⟨rfl, fun c hc => absurd hc (Nat.not_lt_zero c)⟩)
  · intro x2 x3 x4 M' v N hs kk j hk hj hk3 hjn hf hw hK hB
    have hM := sc_t hs0 (sc_96 hf)
    have m2 : M' 188 2 = V 188 2 := sc_r8 hM (by decide) (by decide)
    -- the best is put
    have put : ∀ {M1 : pMem}, bsT (cnF V b) (wtF o L V b) (M' 221) kk n x3 → M1 = aPut M' 221 kk x3 → fr96 M M1 ∧ (∀ c, c < n → cnF V b c = true → M1 220 c = wtF o L V b c) ∧ frK (cnF V b) (wtF o L V b) n (M1 221) (kk + 1) := by
      intro M1 hx e
      refine ⟨fr96_t hf (by rw [e]; exact fr96_p (Or.inr rfl)), fun c hc hy => by rw [e, aPut_cell (by decide)]; exact hw c hc hy, frK_put hK hx (fun q => by rw [e, aPut_row])⟩
    rcases hs with ⟨g, _, M1, e1, hs⟩ | ⟨g, _, hs⟩
    · rw [m2, i_le, hj, hn2] at g
      have ej : j = n := by omega
      rw [ej] at hB
      rw [ix_of hk] at e1
      obtain ⟨p1, p2, p3⟩ := put hB e1
      exact hs (kk + 1) (n_add1 hk (by omega)) (by omega) p1 p2 p3
    · rw [m2, i_le, hj, hn2] at g
      rw [(sc_rows hM).2.2.1, ix_of hb] at hs
      rcases hs with ⟨g2, _, M1, e1, hs⟩ | ⟨g2, hs⟩
      · rw [ix_of hk] at e1
        have none : ∀ c, cnF V b c = false := fun c => by
          unfold cnF
          rw [thV_y hV (show b < 24 by omega), decide_eq_false g2]
          rfl
        have hx : bsT (cnF V b) (wtF o L V b) (M' 221) kk n x3 := by
          rcases hB with ⟨h1, _⟩ | ⟨i, _, i2, _⟩
          · exact Or.inl ⟨h1, fun c _ hy => by rw [none c] at hy; cases hy⟩
          · rw [none i] at i2
            cases i2
        obtain ⟨p1, p2, p3⟩ := put hx e1
        exact hs (kk + 1) (n_add1 hk (by omega)) (by omega) p1 p2 p3
      · have thb : thV V b = true := by rw [thV_y hV (show b < 24 by omega), decide_eq_true (Classical.not_not.mp g2)]
        have next : ∀ {y3 : Int32}, bsT (cnF V b) (wtF o L V b) (M' 221) kk (j + 1) y3 → (∀ kk' j' : Nat, x2.toInt = kk' → (x4 + kI 1).toInt = j' → kk' < 3 → j' ≤ n → fr96 M M' → (∀ c, c < n → cnF V b c = true → M' 220 c = wtF o L V b c) → frK (cnF V b) (wtF o L V b) n (M' 221) kk' → bsT (cnF V b) (wtF o L V b) (M' 221) kk' j' y3 → frK (cnF V b) (wtF o L V b) n (N 221) 3 ∧ fr96 M N) → frK (cnF V b) (wtF o L V b) n (N 221) 3 ∧ fr96 M N := fun hB' hs =>
          hs kk (j + 1) hk (n_add1 hj (by omega)) hk3 (by omega) hf hw hK hB'
        rcases hs with ⟨g3, hs⟩ | ⟨g3, _, hs⟩
        · refine next (bsT_skip hB (Or.inl ?_)) hs
          unfold cnF
          rw [decide_eq_true (show j = b by rw [i_eq, hj, hb] at g3; omega), Bool.not_true, Bool.and_false, Bool.and_false]
        · have ne : ¬ j = b := fun e => g3 (by rw [i_eq, hj, hb, e])
          rw [ix_of hj] at hs
          rcases hs with ⟨g4, hs⟩ | ⟨g4, hs⟩
          · refine next (bsT_skip hB (Or.inl ?_)) hs
            unfold cnF thV
            rw [decide_eq_true g4, Bool.not_true, Bool.false_and, Bool.and_false]
          · have cy : cnF V b j = true := by
              unfold cnF
              rw [thb, decide_eq_false ne]
              unfold thV
              rw [decide_eq_false g4]
              rfl
            have ej : x4 = kI (j : Nat) := kI_inj hj
            have wj := hw j (by omega) cy
            -- compared with the best so far
            have cmp : (∀ m, m < kk → M' 221 m ≠ kI (j : Nat)) → (tIf (x3 = (kI (-1))) (fun v N => ∀ kk' j' : Nat, x2.toInt = kk' → (x4 + kI 1).toInt = j' → kk' < 3 → j' ≤ n → fr96 M M' → (∀ c, c < n → cnF V b c = true → M' 220 c = wtF o L V b c) → frK (cnF V b) (wtF o L V b) n (M' 221) kk' → bsT (cnF V b) (wtF o L V b) (M' 221) kk' j' x4 → frK (cnF V b) (wtF o L V b) n (N 221) 3 ∧ fr96 M N) (tGd (pIn x4 24) <| tGd (pIn x3 24) <| tIf ((M' 220 j) ≤ (M' 220 (ix x3)))
                (fun v N => ∀ kk' j' : Nat, x2.toInt = kk' → (x4 + kI 1).toInt = j' → kk' < 3 → j' ≤ n → fr96 M M' → (∀ c, c < n → cnF V b c = true → M' 220 c = wtF o L V b c) → frK (cnF V b) (wtF o L V b) n (M' 221) kk' → bsT (cnF V b) (wtF o L V b) (M' 221) kk' j' x3 → frK (cnF V b) (wtF o L V b) n (N 221) 3 ∧ fr96 M N)
                (fun v N => ∀ kk' j' : Nat, x2.toInt = kk' → (x4 + kI 1).toInt = j' → kk' < 3 → j' ≤ n → fr96 M M' → (∀ c, c < n → cnF V b c = true → M' 220 c = wtF o L V b c) → frK (cnF V b) (wtF o L V b) n (M' 221) kk' → bsT (cnF V b) (wtF o L V b) (M' 221) kk' j' x4 → frK (cnF V b) (wtF o L V b) n (N 221) 3 ∧ fr96 M N))) v N → frK (cnF V b) (wtF o L V b) n (N 221) 3 ∧ fr96 M N := by
              intro hf2 hs
              rcases hs with ⟨g5, hs⟩ | ⟨g5, _, _, hs⟩
              · exact next (y3 := x4) (by rw [ej]; exact bsT_new hB cy hf2 (Or.inl g5) (by omega)) hs
              · obtain ⟨i, i1, i2, i3, _⟩ := hB.resolve_left fun r => g5 r.1
                have ti : x3.toInt = (i : Nat) := by rw [i3, kI_toInt (by omega) (by omega)]
                rw [ix_of ti, wj, hw i (by omega) i2] at hs
                rcases hs with ⟨g6, hs⟩ | ⟨g6, hs⟩
                · exact next (bsT_old hB i3 (by omega) (by omega) (by rw [i_le] at g6; exact g6)) hs
                · refine next (y3 := x4) ?_ hs
                  rw [ej]
                  exact bsT_new hB cy hf2 (Or.inr ⟨i, i1, i3, by rw [i_le] at g6; omega⟩) (by omega)
            rcases hs with ⟨g5, hs⟩ | ⟨g5, _, hs⟩
            · rw [i_le, hk, i_0] at g5
              have k0 : kk = 0 := by omega
              have hs := tIf_p (show x2 ≤ kI 1 by rw [i_le, hk, kI1]; omega) hs
              exact cmp (fun m hm => by omega) hs
            · rw [i_le, hk, i_0] at g5
              rcases hs with ⟨g6, hs⟩ | ⟨g6, hs⟩
              · exact next (bsT_skip hB (Or.inr ⟨0, by omega, by rw [← ej]; exact g6⟩)) hs
              · rcases hs with ⟨g7, hs⟩ | ⟨g7, _, hs⟩
                · rw [i_le, hk, kI1] at g7
                  refine cmp (fun m hm => ?_) hs
                  have m0 : m = 0 := by omega
                  rw [m0, ← ej]
                  exact g6
                · rw [i_le, hk, kI1] at g7
                  rcases hs with ⟨g8, hs⟩ | ⟨g8, hs⟩
                  · refine cmp (fun m hm => ?_) hs
                    by_cases m0 : m = 0
                    · rw [m0, ← ej]
                      exact g6
                    · have m1 : m = 1 := by omega
                      rw [m1, ← ej]
                      exact g8
                  · exact next (bsT_skip hB (Or.inr ⟨1, by omega, by rw [← ej]; exact Classical.not_not.mp g8⟩)) hs
/-- how many are of the other lot -/
theorem D_97_v {k : Nat} {o : List Cd} {L : List Ln} {M V : pMem} (hs0 : sc V M) (hV : rV V) (hc : rLk V k o L) {p1 : Int32} {b n : Nat} (hn : rNb V n) (hb : p1.toInt = b) (hbn : b < n) {v N} (h : D_97 p1 M v N) : v = acr o L V b ∧ fr96 M N := by
  obtain ⟨_, M1, h96, h⟩ := h
  obtain ⟨a1, a2, a3⟩ := D_96_v hs0 hV hc hn hb hbn h96
  have s1 := sc_t hs0 (sc_96 a3)
  have n24 := hn.1
  have q := h (fun x2 x3 M' v N => ∀ i : Nat, x3.toInt = i → i ≤ 3 → M' = M1 → x2 = kI (cN (acF V b (M1 221)) i : Nat) → v = kI (cN (acF V b (M1 221)) 3 : Nat) ∧ N = M1) ?_
  · obtain ⟨q1, q2⟩ := q 0 rfl (Nat.zero_le _) rfl rfl
    refine ⟨?_, by rw [q2]; exact a3⟩
    rw [q1]
    unfold acr
    rw [acF_cg a1]
  · intro x2 x3 M' v N hs i hi hi3 hM h2
    rw [hM] at hs
    have cs : cN (acF V b (M1 221)) (i + 1) = cN (acF V b (M1 221)) i + (if acF V b (M1 221) i = true then 1 else 0) := rfl
    rcases hs with ⟨g, hv, hN⟩ | ⟨g, _, hs⟩
    · rw [i_le, hi, kI_toInt (by decide) (by decide)] at g
      have e : i = 3 := by omega
      rw [e] at h2
      exact ⟨hv.trans h2, hN⟩
    · rw [i_le, hi, kI_toInt (by decide) (by decide)] at g
      rw [ix_of hi, ix_of hb, (sc_rows s1).1] at hs
      rcases hs with ⟨g2, hs⟩ | ⟨g2, _, _, _, hs⟩
      · refine hs (i + 1) (n_add1 hi (by omega)) (by omega) rfl ?_
        have e : acF V b (M1 221) i = false := by
          unfold acF
          rw [decide_eq_true g2]
          rfl
        rw [cs, e, h2]
        rfl
      · rcases hs with ⟨g3, hs⟩ | ⟨g3, hs⟩
        · refine hs (i + 1) (n_add1 hi (by omega)) (by omega) rfl ?_
          have e : acF V b (M1 221) i = false := by
            unfold acF
            rw [decide_eq_true g3, Bool.not_true, Bool.and_false]
          rw [cs, e, h2]
          rfl
        · refine hs (i + 1) (n_add1 hi (by omega)) (by omega) rfl ?_
          have e : acF V b (M1 221) i = true := by
            unfold acF
            rw [decide_eq_false g3, decide_eq_false g2]
            rfl
          rw [cs, if_pos e, h2, kI_n1]
          rfl
