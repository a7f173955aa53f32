/-! laws as they are read: codes (0 a number, 1 a fact, 2 .. 5 + - * /, 6 .. 8 < = >, 9 so many nots, 10 and, 11 or) -/
abbrev Cd : Type := Nat × Int32
abbrev Rs : Type := Nat × Nat × List Cd
def wqC (w : Int32) : List Cd := if w = kI 43 then [(2, kI 0)] else if w = kI 45 then [(3, kI 0)] else []
def mC (s : Int32) : List Cd := if s = kI 42 then [(4, kI 0)] else if s = kI 47 then [(5, kI 0)] else []
/-- one number or fact at token k (d: behind a /) -/
def unG (T V : Nat → Int32) (d : Prop) [Decidable d] (k : Nat) (o : List Cd) : Rs :=
  if T k = kI 100 then (if d ∧ V k = kI 0 then (2, k, o) else (0, k + 1, o ++ [(0, V k)]))
  else if 0 ≤ (T k).toInt ∧ (T k).toInt ≤ 13 ∧ ¬ d then (0, k + 1, o ++ [(1, T k)]) else (1, k, o)
/-- behind one: n bounds how many follow -/
def suG (T V : Nat → Int32) : Nat → Int32 → Nat → List Cd → Rs
  | 0, _, k, o => (9, k, o)
  | n + 1, w, k, o =>
    if T k = kI 42 ∨ T k = kI 47 then
      (if (unG T V (T k = kI 47) (k + 1) o).1 = 0 then suG T V n w (unG T V (T k = kI 47) (k + 1) o).2.1 ((unG T V (T k = kI 47) (k + 1) o).2.2 ++ mC (T k)) else unG T V (T k = kI 47) (k + 1) o)
    else if T k = kI 43 ∨ T k = kI 45 then
      (if (unG T V (T k = kI 47) (k + 1) (o ++ wqC w)).1 = 0 then suG T V n (T k) (unG T V (T k = kI 47) (k + 1) (o ++ wqC w)).2.1 ((unG T V (T k = kI 47) (k + 1) (o ++ wqC w)).2.2 ++ mC (T k)) else unG T V (T k = kI 47) (k + 1) (o ++ wqC w))
    else (0, k, o ++ wqC w)
theorem suG_up {T V : Nat → Int32} : ∀ {n : Nat} {w : Int32} {k : Nat} {o : List Cd} {r : Rs}, suG T V n w k o = r → r.1 ≠ 9 → suG T V (n + 1) w k o = r := by
  intro n
  induction n with
  | zero =>
    intro w k o r h h9
    rw [← h] at h9
    exact absurd rfl h9
  | succ n ih =>
    intro w k o r h h9
    unfold suG at h ⊢
    by_cases c1 : T k = kI 42 ∨ T k = kI 47
    · rw [if_pos c1] at h ⊢
      by_cases c2 : (unG T V (T k = kI 47) (k + 1) o).1 = 0
      · rw [if_pos c2] at h ⊢
        exact ih h h9
      · rw [if_neg c2] at h ⊢
        exact h
    · rw [if_neg c1] at h ⊢
      by_cases c3 : T k = kI 43 ∨ T k = kI 45
      · rw [if_pos c3] at h ⊢
        by_cases c2 : (unG T V (T k = kI 47) (k + 1) (o ++ wqC w)).1 = 0
        · rw [if_pos c2] at h ⊢
          exact ih h h9
        · rw [if_neg c2] at h ⊢
          exact h
      · rw [if_neg c3] at h ⊢
        exact h
theorem suG_le {T V : Nat → Int32} {n m : Nat} {w : Int32} {k : Nat} {o : List Cd} {r : Rs} (h : suG T V n w k o = r) (h9 : r.1 ≠ 9) (hm : n ≤ m) : suG T V m w k o = r := by
  obtain ⟨d, rfl⟩ := Nat.exists_eq_add_of_le hm
  induction d with
  | zero => exact h
  | succ d ih => exact suG_up (ih (by omega)) h9
/-- behind one number or fact; ahead of one -/
def suR (T V : Nat → Int32) (w : Int32) (k : Nat) (o : List Cd) (r : Rs) : Prop := r.1 ≠ 9 ∧ ∃ n, suG T V n w k o = r
def suP (T V : Nat → Int32) (w s : Int32) (k : Nat) (o : List Cd) (r : Rs) : Prop :=
  ((unG T V (s = kI 47) k o).1 ≠ 0 ∧ r = unG T V (s = kI 47) k o) ∨ ((unG T V (s = kI 47) k o).1 = 0 ∧ suR T V w (unG T V (s = kI 47) k o).2.1 ((unG T V (s = kI 47) k o).2.2 ++ mC s) r)
section SU
variable {T V : Nat → Int32} {w s : Int32} {k : Nat} {o : List Cd} {r r' : Rs}
theorem suR_det (h : suR T V w k o r) (h' : suR T V w k o r') : r = r' := by
  obtain ⟨a, n, e⟩ := h
  obtain ⟨b, m, e'⟩ := h'
  rw [← suG_le e a (Nat.le_max_left n m), ← suG_le e' b (Nat.le_max_right n m)]
theorem suP_det (h : suP T V w s k o r) (h' : suP T V w s k o r') : r = r' := by
  rcases h with ⟨a, e⟩ | ⟨a, e⟩ <;> rcases h' with ⟨a', e'⟩ | ⟨a', e'⟩
  · rw [e, e']
  · exact absurd a' a
  · exact absurd a a'
  · exact suR_det e e'
theorem unG_9 {d : Prop} [Decidable d] : (unG T V d k o).1 ≠ 9 := by
  unfold unG
  repeat' split
  all_goals first | exact (show (2 : Nat) ≠ 9 by decide) | exact (show (0 : Nat) ≠ 9 by decide) | exact (show (1 : Nat) ≠ 9 by decide)
theorem suP_9 (h : suP T V w s k o r) : r.1 ≠ 9 := by
  rcases h with ⟨_, e⟩ | ⟨_, e⟩
  · rw [e]
    exact unG_9
  · exact e.1
theorem suR_mul (c : T k = kI 42 ∨ T k = kI 47) (h : suP T V w (T k) (k + 1) o r) : suR T V w k o r := by
  refine ⟨suP_9 h, ?_⟩
  rcases h with ⟨a, e⟩ | ⟨a, _, n, e⟩
  · refine ⟨1, ?_⟩
    unfold suG
    rw [if_pos c, if_neg a, e]
  · refine ⟨n + 1, ?_⟩
    unfold suG
    rw [if_pos c, if_pos a]
    exact e
theorem suR_add (c : T k = kI 43 ∨ T k = kI 45) (h : suP T V (T k) (T k) (k + 1) (o ++ wqC w) r) : suR T V w k o r := by
  have c1 : ¬ (T k = kI 42 ∨ T k = kI 47) := by
    rcases c with c | c <;> rw [c] <;> decide
  refine ⟨suP_9 h, ?_⟩
  rcases h with ⟨a, e⟩ | ⟨a, _, n, e⟩
  · refine ⟨1, ?_⟩
    unfold suG
    rw [if_neg c1, if_pos c, if_neg a, e]
  · refine ⟨n + 1, ?_⟩
    unfold suG
    rw [if_neg c1, if_pos c, if_pos a]
    exact e
theorem suR_end (c1 : ¬ (T k = kI 42 ∨ T k = kI 47)) (c2 : ¬ (T k = kI 43 ∨ T k = kI 45)) : suR T V w k o (0, k, o ++ wqC w) := by
  refine ⟨show (0 : Nat) ≠ 9 by decide, 1, ?_⟩
  unfold suG
  rw [if_neg c1, if_neg c2]
end SU
/-- E; two with a sign between -/
def suS (T V : Nat → Int32) (k : Nat) (o : List Cd) (r : Rs) : Prop := suP T V (kI 102) (kI 102) k o r
theorem mC_no {s : Int32} (h1 : ¬ s = kI 42) (h2 : ¬ s = kI 47) : mC s = [] := by
  unfold mC
  rw [if_neg h1, if_neg h2]
/-! the class's steps -/
def stpC (q : Cd) : List Int32 := match q.1 with
  | 0 => [q.2]
  | 1 => [kI 10000 + q.2]
  | 2 => [kI (-43)]
  | 3 => [kI (-45)]
  | 4 => [kI (-42)]
  | 5 => [kI (-47)]
  | 6 => [kI (-60)]
  | 7 => [kI (-61)]
  | 8 => [kI (-62)]
  | 9 => if q.2.toInt % 2 = 1 then [kI (-23)] else []
  | 10 => [kI (-22)]
  | _ => [kI (-21)]
def stC (o : List Cd) : List Int32 := o.flatMap stpC
theorem stC_app {a b : List Cd} : stC (a ++ b) = stC a ++ stC b := List.flatMap_append ..
theorem stC_one {q : Cd} : stC [q] = stpC q := by
  show stpC q ++ [] = stpC q
  rw [List.append_nil]
/-- the draft's steps -/
def stp (M : pMem) (L : List Int32) : Prop := (M 7 1).toInt = L.length ∧ L.length ≤ 500 ∧ ∀ i x, L[i]? = some x → M 12 i = x
theorem D_155_s {M : pMem} {L : List Int32} (h : stp M L) (hl : L.length < 500) {x : Int32} {v : Unit} {N : pMem} (hD : D_155 7 x M v N) : stp N (L ++ [x]) ∧ N 6 = M 6 := by
  obtain ⟨h1, h2, h3⟩ := h
  have hD := tIf_n (show ¬ M 7 1 < 0 by rw [i_lt, h1, i_0]; omega) hD
  have hD := tIf_n (show ¬ kI 500 ≤ M 7 1 by rw [i_le, h1, kI_toInt (by decide) (by decide)]; omega) hD
  obtain ⟨_, M1, e1, M2, e2, _, hN⟩ := hD
  rw [ix_of h1] at e1
  rw [hN]
  refine ⟨⟨?_, ?_, fun i y hi => ?_⟩, ?_⟩
  · rw [e2, aPut_same, e1, aPut_cell (by decide), i_add1 (by omega), h1, List.length_append, List.length_singleton]
    omega
  · rw [List.length_append, List.length_singleton]
    omega
  · rw [e2, aPut_cell (by decide), e1, aPut_row]
    by_cases e : i = L.length
    · rw [if_pos e]
      rw [e, List.getElem?_append_right (Nat.le_refl _), Nat.sub_self] at hi
      exact (Option.some.inj hi)
    · rw [if_neg e]
      have hlt := (List.getElem?_eq_some_iff.mp hi).1
      rw [List.length_append, List.length_singleton] at hlt
      rw [List.getElem?_append_left (by omega)] at hi
      exact h3 i y hi
  · funext j
    rw [e2, aPut_cell (by decide), e1, aPut_cell (by decide)]
/-- the class stands at token k, its draft holds the steps of o, fewer than tokens were read -/
def cL (M : pMem) (B : Nat → Int32) (n c k : Nat) (o : List Cd) : Prop := rdR M B n c k ∧ stp M (stC o) ∧ (stC o).length ≤ k
theorem cL_put {M : pMem} {B : Nat → Int32} {n c k : Nat} {o : List Cd} {q : Cd} {x : Int32} (h : cL M B n c k o) (hq : stpC q = [x]) (h5 : (stC o).length < 500) {v : Unit} {N : pMem} (hD : D_155 7 x M v N) : rdR N B n c k ∧ stp N (stC (o ++ [q])) ∧ N 6 = M 6 ∧ (stC (o ++ [q])).length = (stC o).length + 1 := by
  obtain ⟨h1, h2, h3⟩ := h
  obtain ⟨s1, s2⟩ := D_155_s h2 h5 hD
  have f := F_155 (show pK 2 7 = true by decide +kernel) hD
  have e : stC (o ++ [q]) = stC o ++ [x] := by rw [stC_app, stC_one, hq]
  refine ⟨zR_fr h1 f (fun j => rfl) (by rw [s2]; exact h1.2.2.2.2.1), by rw [e]; exact s1, s2, by rw [e, List.length_append, List.length_singleton]⟩
theorem cl_adv {M M1 : pMem} {B : Nat → Int32} {n c k : Nat} {L : List Int32} (h : rdR M B n c k) (hs : stp M L) (hT : ¬ yT B n k = kI 101) (e : M1 = aPut M 6 3 (M 6 3 + kI 1)) : rdR M1 B n c (k + 1) ∧ stp M1 L ∧ M1 6 4 = M 6 4 ∧ M1 6 5 = M 6 5 ∧ k < 500 := by
  have hk := zR_k h hT
  obtain ⟨b1, b2, b3⟩ := at_put h.2.2.2.2.1 (by omega) e
  have f : pFr [(6, 3)] M M1 := fun a j _ _ q => by
    simp only [pOut_cons, pOut_nil, true_or, and_true] at q
    rw [e]
    by_cases ea : a = 6
    · subst ea
      exact aPut_at (by omega)
    · exact aPut_cell ea
  obtain ⟨s1, s2, s3⟩ := hs
  exact ⟨zR_fr h f (fun j => rfl) b1, ⟨by rw [e, aPut_cell (by decide)]; exact s1, s2, fun i y hi => by rw [e, aPut_cell (by decide)]; exact s3 i y hi⟩, b2, b3, hk⟩
/-- how a reading function of the class ends (x: so many steps wait) -/
def cX (M N : pMem) (B : Nat → Int32) (n c k : Nat) (o : List Cd) (x : Nat) (v : Int32) (r : Rs) : Prop :=
  (r.1 = 0 → v = kI 1 ∧ N 6 4 = M 6 4 ∧ N 6 5 = M 6 5 ∧ rdR N B n c r.2.1 ∧ stp N (stC r.2.2) ∧ (stC r.2.2).length + k ≤ (stC o).length + x + r.2.1 ∧ k ≤ r.2.1 ∧ r.2.1 ≤ 500) ∧ (r.1 ≠ 0 → rdNo B n N v r.1 r.2.1)
theorem cX_no {M N : pMem} {B : Nat → Int32} {n c k x : Nat} {o : List Cd} {v : Int32} {r : Rs} (h : cX M N B n c k o x v r) (h0 : v = 0) : r.1 ≠ 0 := fun e => by
  have := (h.1 e).1
  rw [h0] at this
  exact absurd this (by decide)
theorem cX_ok {M N : pMem} {B : Nat → Int32} {n c k x : Nat} {o : List Cd} {v : Int32} {r : Rs} (h : cX M N B n c k o x v r) (h0 : ¬ v = 0) : r.1 = 0 :=
  Classical.byContradiction fun e => h0 (h.2 e).1
/-- one after another -/
theorem cX_then {M M1 N : pMem} {B : Nat → Int32} {n c k k1 x x1 : Nat} {o o1 : List Cd} {v : Int32} {r : Rs} (h : cX M1 N B n c k1 o1 x1 v r) (e4 : M1 6 4 = M 6 4) (e5 : M1 6 5 = M 6 5) (hk : k ≤ k1) (hg : (stC o1).length + x1 + k ≤ (stC o).length + x + k1) : cX M N B n c k o x v r := by
  refine ⟨fun e => ?_, h.2⟩
  obtain ⟨a1, a2, a3, a4, a5, a6, a7, a8⟩ := h.1 e
  exact ⟨a1, a2.trans e4, a3.trans e5, a4, a5, by omega, by omega, a8⟩
theorem unG_cg {T V : Nat → Int32} {k : Nat} {o : List Cd} {d d' : Prop} [Decidable d] [Decidable d'] (h : d ↔ d') : unG T V d k o = unG T V d' k o := by
  unfold unG
  by_cases a : T k = kI 100
  · rw [if_pos a, if_pos a]
    by_cases b : d ∧ V k = kI 0
    · rw [if_pos b, if_pos ⟨h.mp b.1, b.2⟩]
    · rw [if_neg b, if_neg (fun q => b ⟨h.mpr q.1, q.2⟩)]
  · rw [if_neg a, if_neg a]
    by_cases b : 0 ≤ (T k).toInt ∧ (T k).toInt ≤ 13 ∧ ¬ d
    · rw [if_pos b, if_pos ⟨b.1, b.2.1, fun q => b.2.2 (h.mpr q)⟩]
    · rw [if_neg b, if_neg (fun q => b ⟨q.1, q.2.1, fun e => q.2.2 (h.mp e)⟩)]
theorem D_180_w {M : pMem} {B : Nat → Int32} {n c k : Nat} {o : List Cd} (h : cL M B n c k o) {p : Int32} {v : Int32} {N : pMem} (hD : D_180 p M v N) : cX M N B n c k o 0 v (unG (yT B n) (yV B n) (¬ p = 0) k o) ∧ (¬ v = 0 → (unG (yT B n) (yV B n) (¬ p = 0) k o).2.1 = k + 1 ∧ k < 500 ∧ (stC (unG (yT B n) (yV B n) (¬ p = 0) k o).2.2).length = (stC o).length + 1) := by
  obtain ⟨h1, h2, h3⟩ := h
  obtain ⟨ht, hv', _⟩ := zR_t h1
  have fail : ∀ {f : Nat} {v1 : Int32} {M1 : pMem}, D_173 (kI f) M v1 M1 → v = v1 → N = M1 → rdNo B n N v f k := fun hD hv hN => by
    obtain ⟨r1, r2, r3, r4⟩ := D_173_w h1 hD
    rw [hN, hv]
    exact ⟨r1, r3, r4⟩
  have bad : ∀ {f : Nat}, rdNo B n N v f k → f ≠ 0 → cX M N B n c k o 0 v (f, k, o) ∧ (¬ v = 0 → k = k + 1 ∧ k < 500 ∧ (stC o).length = (stC o).length + 1) := fun h hf => ⟨⟨fun e => absurd e hf, fun _ => h⟩, fun q => absurd h.1 q⟩
  have good : ∀ {q : Cd} {x : Int32} {u : Unit} {M1 M2 : pMem}, ¬ yT B n k = kI 101 → stpC q = [x] → D_155 7 x M u M1 → M2 = aPut M1 6 3 (M1 6 3 + kI 1) → v = kI 1 → N = M2 → cX M N B n c k o 0 v (0, k + 1, o ++ [q]) ∧ (¬ v = 0 → k + 1 = k + 1 ∧ k < 500 ∧ (stC (o ++ [q])).length = (stC o).length + 1) := by
    intro q x u M1 M2 hT hq h155 e2 hv hN
    have hk := zR_k h1 hT
    obtain ⟨a1, a2, a3, a4⟩ := cL_put ⟨h1, h2, h3⟩ hq (by omega) h155
    obtain ⟨b1, b2, b3, b4, _⟩ := cl_adv a1 a2 hT (hN.trans e2)
    exact ⟨⟨fun _ => ⟨hv, by rw [b3, a3], by rw [b4, a3], b1, b2, by show (stC (o ++ [q])).length + k ≤ (stC o).length + 0 + (k + 1); omega, by show k ≤ k + 1; omega, by show k + 1 ≤ 500; omega⟩, fun e => absurd rfl e⟩, fun _ => ⟨rfl, hk, a4⟩⟩
  rcases hD with ⟨g, hD⟩ | ⟨g, hD⟩
  · rw [ht] at g
    unfold unG
    rw [if_neg g]
    rcases hD with ⟨g2, v1, M1, hD, hv, hN⟩ | ⟨g2, hD⟩
    · rw [ht, i_lt, i_0] at g2
      rw [if_neg (fun q => by omega)]
      exact bad (fail (f := 1) hD hv hN) (by decide)
    · rw [ht, i_lt, i_0] at g2
      rcases hD with ⟨g3, v1, M1, hD, hv, hN⟩ | ⟨g3, hD⟩
      · rw [ht, i_lt, kI_toInt (by decide) (by decide)] at g3
        rw [if_neg (fun q => by omega)]
        exact bad (fail (f := 1) hD hv hN) (by decide)
      · rw [ht, i_lt, kI_toInt (by decide) (by decide)] at g3
        rcases hD with ⟨g4, v1, M1, hD, hv, hN⟩ | ⟨g4, u, M1, h155, M2, e2, hv, hN⟩
        · rw [if_neg (fun q => q.2.2 g4)]
          exact bad (fail (f := 1) hD hv hN) (by decide)
        · rw [if_pos ⟨by omega, by omega, g4⟩]
          rw [ht] at h155
          refine good (q := (1, yT B n k)) (fun e => by rw [e, kI_toInt (by decide) (by decide)] at g3; omega) ?_ h155 e2 hv hN
          show [kI 10000 + yT B n k] = [kI 10000 + yT B n k - kI 0]
          rw [kIz, Int32.sub_zero]
  · have g : yT B n k = kI 100 := by rw [← ht]; exact Classical.not_not.mp g
    have n101 : ¬ yT B n k = kI 101 := by rw [g]; decide
    unfold unG
    rw [if_pos g]
    rw [hv'] at hD
    rcases hD with ⟨g2, u, M1, h155, M2, e2, hv, hN⟩ | ⟨g2, hD⟩
    · rw [if_neg (fun q => q.1 g2)]
      exact good (q := (0, yV B n k)) n101 rfl h155 e2 hv hN
    · rcases hD with ⟨g3, u, M1, h155, M2, e2, hv, hN⟩ | ⟨g3, v1, M1, hD, hv, hN⟩
      · rw [if_neg (fun q => g3 q.2)]
        exact good (q := (0, yV B n k)) n101 rfl h155 e2 hv hN
      · rw [if_pos ⟨g2, Classical.not_not.mp g3⟩]
        exact bad (fail (f := 2) hD hv hN) (by decide)
