/-! the class reads B -/
def rpl (c : Nat) (S : List Nat) : List Nat := List.replicate c 9 ++ S
theorem rpl_lead {S : List Nat} (h : lead 9 S = 0) : ∀ c, lead 9 (rpl c S) = c ∧ (rpl c S).dropWhile (· == 9) = S := by
  intro c
  induction c with
  | zero =>
    refine ⟨h, ?_⟩
    show S.dropWhile (· == 9) = S
    cases S with
    | nil => rfl
    | cons a r =>
      unfold lead at h
      rw [List.takeWhile_cons] at h
      rw [List.dropWhile_cons]
      by_cases e : (a == 9) = true
      · rw [if_pos e] at h
        exact absurd h (by simp)
      · rw [if_neg e]
  | succ c ih =>
    have e : rpl (c + 1) S = 9 :: rpl c S := rfl
    rw [e]
    refine ⟨?_, ih.2⟩
    show ((9 :: rpl c S).takeWhile (· == 9)).length = c + 1
    rw [List.takeWhile_cons, if_pos (show ((9 : Nat) == 9) = true from rfl), List.length_cons]
    have := ih.1
    unfold lead at this
    rw [this]
theorem opn_rpl {S : List Nat} : ∀ c, opn (rpl c S) = c + opn S := by
  intro c
  induction c with
  | zero => rw [Nat.zero_add]; rfl
  | succ c ih =>
    have e : rpl (c + 1) S = 9 :: rpl c S := rfl
    rw [e]
    unfold opn at ih ⊢
    rw [List.countP_cons, ih, if_pos (show ((9 : Nat) == 9 || (9 : Nat) == 12) = true from rfl)]
    omega
theorem opn_cons {x : Nat} {S : List Nat} : opn (x :: S) = opn S + if x == 9 || x == 12 then 1 else 0 := by
  unfold opn
  rw [List.countP_cons]
def okWd (W : List Nat) : Prop := W = [] ∨ W = [10] ∨ W = [11] ∨ W = [10, 11]
def sW (W : List Nat) : List Cd := W.map fun x => (x, kI 0)
def top12 (S : List Nat) : Prop := S = [] ∨ ∃ R, S = 12 :: R
theorem stO_W {W S : List Nat} {o : List Cd} (hW : okWd W) (hS : top12 S) : stO (W ++ S) o = (S, o ++ sW W) := by
  rcases hW with rfl | rfl | rfl | rfl <;> rcases hS with rfl | ⟨R, rfl⟩
  all_goals simp [stO, stA, sW, lead, rep, List.replicate, List.dropWhile_cons, List.takeWhile_cons]
theorem stA_W {W S : List Nat} {o : List Cd} (hW : W = [] ∨ W = [11]) (hS : top12 S) : stA (W ++ S) o = (W ++ S, o) ∧ stA (10 :: (W ++ S)) o = (W ++ S, o ++ [(10, kI 0)]) := by
  rcases hW with rfl | rfl <;> rcases hS with rfl | ⟨R, rfl⟩
  all_goals (refine ⟨?_, ?_⟩ <;> simp [stA, lead, rep, List.replicate, List.dropWhile_cons, List.takeWhile_cons])
theorem opn_W {W S : List Nat} (hW : okWd W) : opn (W ++ S) = opn S := by
  rcases hW with rfl | rfl | rfl | rfl
  · rfl
  · show opn (10 :: S) = _; rw [opn_cons]; rfl
  · show opn (11 :: S) = _; rw [opn_cons]; rfl
  · show opn (10 :: 11 :: S) = _; rw [opn_cons, opn_cons]; rfl
theorem lead_W {W S : List Nat} (hW : okWd W) (hS : top12 S) : lead 9 (W ++ S) = 0 := by
  rcases hW with rfl | rfl | rfl | rfl <;> rcases hS with rfl | ⟨R, rfl⟩ <;> rfl
def qF (B : Nat → Int32) (n : Nat) (N : pMem) (v : Int32) (s : Sm) : Prop := ∃ k' S' o' f, sR (yT B n) (yV B n) s (3, k', S', o', f) ∧ f ≠ 0 ∧ rdNo B n N v f k'
theorem qF_tr {B : Nat → Int32} {n : Nat} {N : pMem} {v : Int32} {s t : Sm} (h : sR (yT B n) (yV B n) s t) (q : qF B n N v t) : qF B n N v s := by
  obtain ⟨a, b, c, d, e, f⟩ := q
  exact ⟨a, b, c, d, sR_tr h e, f⟩
/-- it was read: at token k', with the steps of o'; x steps waited -/
def qK (M N : pMem) (B : Nat → Int32) (n c k : Nat) (o : List Cd) (x : Nat) (v : Int32) (k' : Nat) (o' : List Cd) : Prop :=
  v = kI 1 ∧ N 6 4 = M 6 4 ∧ N 6 5 = M 6 5 ∧ rdR N B n c k' ∧ stp N (stC o') ∧ (stC o').length + k ≤ (stC o).length + x + k' ∧ k < k' ∧ k' ≤ 500
theorem qK_then {M M1 N : pMem} {B : Nat → Int32} {n c k k1 x x1 k' : Nat} {o o1 o' : List Cd} {v : Int32} (h : qK M1 N B n c k1 o1 x1 v k' o') (e4 : M1 6 4 = M 6 4) (e5 : M1 6 5 = M 6 5) (hk : k ≤ k1) (hg : (stC o1).length + x1 + k ≤ (stC o).length + x + k1) : qK M N B n c k o x v k' o' := by
  obtain ⟨a1, a2, a3, a4, a5, a6, a7, a8⟩ := h
  exact ⟨a1, a2.trans e4, a3.trans e5, a4, a5, by omega, by omega, a8⟩
def q178 (B : Nat → Int32) (n c : Nat) (p : Int32) (M : pMem) (v : Int32) (N : pMem) : Prop := ∀ (k : Nat) (o : List Cd) (S : List Nat), rdR M B n c k → stp M (stC o) → (stC o).length ≤ k → k ≤ 500 → p.toInt = opn S → opn S ≤ 8 → lead 9 S = 0 →
  (∃ k' o', sR (yT B n) (yV B n) (0, k, S, o, 0) (1, k', S, o', 0) ∧ qK M N B n c k o 0 v k' o') ∨ qF B n N v (0, k, S, o, 0)
def q1781 (B : Nat → Int32) (n c : Nat) (p x2 : Int32) (M : pMem) (v : Int32) (N : pMem) : Prop := ∀ (k : Nat) (o : List Cd) (S : List Nat) (d : Nat), rdR M B n c k → stp M (stC o) → (stC o).length + d ≤ k → k ≤ 500 → p.toInt = opn S → x2.toInt = ((d + opn S : Nat) : Int) → d + opn S ≤ 8 → lead 9 S = 0 →
  (∃ k' o', sR (yT B n) (yV B n) (0, k, rpl d S, o, 0) (1, k', S, o', 0) ∧ qK M N B n c k o d v k' o') ∨ qF B n N v (0, k, rpl d S, o, 0)
def q17811 (B : Nat → Int32) (n c : Nat) (p x2 x3 : Int32) (M : pMem) (v : Int32) (N : pMem) : Prop := ∀ (k : Nat) (o : List Cd) (S : List Nat) (d : Nat), rdR M B n c k → stp M (stC o) → (stC o).length + d ≤ k → k ≤ 500 → p.toInt = opn S → x2.toInt = ((d + opn S : Nat) : Int) → d + opn S ≤ 8 → lead 9 S = 0 →
  (x3 = 0 → ¬ yT B n k = kI 23 ∧ ¬ yT B n k = kI 40) → (¬ x3 = 0 → yT B n k = kI 40 ∧ d + opn S < 8) →
  (∃ k' o', sR (yT B n) (yV B n) (0, k, rpl d S, o, 0) (1, k', S, o', 0) ∧ qK M N B n c k o d v k' o') ∨ qF B n N v (0, k, rpl d S, o, 0)
def q177 (B : Nat → Int32) (n c : Nat) (p : Int32) (M : pMem) (v : Int32) (N : pMem) : Prop := ∀ (k : Nat) (o : List Cd) (S : List Nat), rdR M B n c k → stp M (stC o) → (stC o).length ≤ k → k ≤ 500 → p.toInt = opn S → opn S ≤ 8 → top12 S →
  (∃ k' o' W, okWd W ∧ sR (yT B n) (yV B n) (0, k, S, o, 0) (1, k', W ++ S, o', 0) ∧ ¬ yT B n k' = kI 22 ∧ ¬ yT B n k' = kI 21 ∧ qK M N B n c k o 0 v k' (o' ++ sW W)) ∨ qF B n N v (0, k, S, o, 0)
def wqW (x2 x3 : Int32) : List Nat := (if x3 = kI 22 then [10] else []) ++ (if x2 = 0 then [] else [11])
theorem wW_ok {x2 x3 : Int32} : okWd (wqW x2 x3) := by
  unfold wqW okWd
  by_cases a : x3 = kI 22 <;> by_cases b : x2 = 0 <;> simp [a, b]
def q1771 (B : Nat → Int32) (n c : Nat) (p x2 x3 x4 : Int32) (M : pMem) (v : Int32) (N : pMem) : Prop := ∀ (k i : Nat) (o : List Cd) (S : List Nat), x4.toInt = i → i ≤ k → rdR M B n c k → stp M (stC o) → (stC o).length + (wqW x2 x3).length ≤ k → k ≤ 500 → p.toInt = opn S → opn S ≤ 8 → top12 S → (k = 500 → i < 500) →
  (∃ k' o' W, okWd W ∧ sR (yT B n) (yV B n) (0, k, wqW x2 x3 ++ S, o, 0) (1, k', W ++ S, o', 0) ∧ ¬ yT B n k' = kI 22 ∧ ¬ yT B n k' = kI 21 ∧ qK M N B n c k o (wqW x2 x3).length v k' (o' ++ sW W)) ∨ qF B n N v (0, k, wqW x2 x3 ++ S, o, 0)
section QS
variable {B : Nat → Int32} {n c : Nat} {E177 : Int32 → pMem → pT Int32} {P1771 : Int32 → Int32 → Int32 → Int32 → pMem → pT Int32} {E178 : Int32 → pMem → pT Int32} {P1781 : Int32 → Int32 → pMem → pT Int32} {P17811 : Int32 → Int32 → Int32 → pMem → pT Int32}
theorem S_177_ew (h1 : ∀ p x2 x3 x4 M v N, P1771 p x2 x3 x4 M v N → q1771 B n c p x2 x3 x4 M v N) {p v : Int32} {M N : pMem} (hs : S_177_e E177 P1771 E178 P1781 P17811 p M v N) : q177 B n c p M v N := by
  intro k o S a1 a2 a3 a4 a5 a6 a7
  exact h1 _ _ _ _ _ _ _ hs k 0 o S rfl (Nat.zero_le _) a1 a2 a3 a4 a5 a6 a7 (fun _ => by decide)
theorem S_178_ew (h1 : ∀ p x2 M v N, P1781 p x2 M v N → q1781 B n c p x2 M v N) {p v : Int32} {M N : pMem} (hs : S_178_e E177 P1771 E178 P1781 P17811 p M v N) : q178 B n c p M v N := by
  intro k o S a1 a2 a3 a4 a5 a6 a7
  exact h1 _ _ _ _ _ hs k o S 0 a1 a2 a3 a4 a5 (by rw [a5, Nat.zero_add]) (by omega) a7
theorem S_177_1w (h1 : ∀ p x2 x3 x4 M v N, P1771 p x2 x3 x4 M v N → q1771 B n c p x2 x3 x4 M v N) (h178 : ∀ p M v N, E178 p M v N → q178 B n c p M v N) {p x2 x3 x4 v : Int32} {M N : pMem} (hs : S_177_1 E177 P1771 E178 P1781 P17811 p x2 x3 x4 M v N) : q1771 B n c p x2 x3 x4 M v N := by
  intro k i o S hx4 hik hr hst hl hk hp hp8 hS h5
  rcases hs with ⟨g, _⟩ | ⟨_, v1, M1, hE, hs⟩
  · rw [i_le, hx4, kI_toInt (by decide) (by decide)] at g
    have : k = 500 := by omega
    have := h5 this
    omega
  · rcases h178 _ _ _ _ hE k o (wqW x2 x3 ++ S) hr hst (by omega) hk (by rw [opn_W wW_ok]; exact hp) (by rw [opn_W wW_ok]; exact hp8) (lead_W wW_ok hS) with ⟨k1, o1, s1, b1, b2, b3, b4, b5, b6, b7, b8⟩ | bad
    · have hs := tIf_p (show ¬ v1 = 0 by rw [b1]; decide) hs
      obtain ⟨ht, _, _⟩ := zR_t b4
      have nx : (x4 + kI 1).toInt = ((i + 1 : Nat) : Int) := by rw [i_add1 (by omega), hx4]; omega
      -- on it goes: behind and / or
      have more : ∀ {M2 M3 : pMem} {y2 y3 : Int32} {o2 : List Cd}, rdR M2 B n c k1 → stp M2 (stC o2) → M2 6 4 = M1 6 4 → M2 6 5 = M1 6 5 → (stC o2).length + (wqW y2 y3).length ≤ (stC o1).length + (wqW x2 x3).length + 1 → ¬ yT B n k1 = kI 101 → M3 = aPut M2 6 3 (M2 6 3 + kI 1) →
          stM (yT B n) (yV B n) (1, k1, wqW x2 x3 ++ S, o1, 0) (0, k1 + 1, wqW y2 y3 ++ S, o2, 0) → P1771 p y2 y3 (x4 + kI 1) M3 v N →
          (∃ k' o' W, okWd W ∧ sR (yT B n) (yV B n) (0, k, wqW x2 x3 ++ S, o, 0) (1, k', W ++ S, o', 0) ∧ ¬ yT B n k' = kI 22 ∧ ¬ yT B n k' = kI 21 ∧ qK M N B n c k o (wqW x2 x3).length v k' (o' ++ sW W)) ∨ qF B n N v (0, k, wqW x2 x3 ++ S, o, 0) := by
        intro M2 M3 y2 y3 o2 r2 t2 e4 e5 hl2 hT e3 hst2 hs
        obtain ⟨c1, c2, c3, c4, c5⟩ := cl_adv r2 t2 hT e3
        rcases h1 _ _ _ _ _ _ _ hs (k1 + 1) (i + 1) o2 S nx (by omega) c1 c2 (by omega) (by omega) hp hp8 hS (fun e => by omega) with ⟨k', o', W, d1, d2, d3, d4, d5⟩ | bad
        · exact Or.inl ⟨k', o', W, d1, sR_tr s1 (sR_tr (sR_one hst2) d2), d3, d4, qK_then d5 (c3.trans (e4.trans b2)) (c4.trans (e5.trans b3)) (by omega) (by omega)⟩
        · exact Or.inr (qF_tr (sR_tr s1 (sR_one hst2)) bad)
      -- the end
      have done : ∀ {M2 : pMem}, rdR M2 B n c k1 → stp M2 (stC (o1 ++ sW (wqW x2 x3))) → M2 6 4 = M1 6 4 → M2 6 5 = M1 6 5 → (stC (o1 ++ sW (wqW x2 x3))).length ≤ (stC o1).length + (wqW x2 x3).length → ¬ yT B n k1 = kI 22 → ¬ yT B n k1 = kI 21 → v = kI 1 → N = M2 →
          (∃ k' o' W, okWd W ∧ sR (yT B n) (yV B n) (0, k, wqW x2 x3 ++ S, o, 0) (1, k', W ++ S, o', 0) ∧ ¬ yT B n k' = kI 22 ∧ ¬ yT B n k' = kI 21 ∧ qK M N B n c k o (wqW x2 x3).length v k' (o' ++ sW W)) ∨ qF B n N v (0, k, wqW x2 x3 ++ S, o, 0) := by
        intro M2 r2 t2 e4 e5 hl2 n22 n21 hv hN
        exact Or.inl ⟨k1, o1, _, wW_ok, s1, n22, n21, hv, by rw [hN, e4, b2], by rw [hN, e5, b3], by rw [hN]; exact r2, by rw [hN]; exact t2, by omega, by omega, b8⟩
      have step22 : ∀ {o2 : List Cd} {W2 : List Nat}, yT B n k1 = kI 22 → stA (wqW x2 x3 ++ S) o1 = (W2 ++ S, o2) → stM (yT B n) (yV B n) (1, k1, wqW x2 x3 ++ S, o1, 0) (0, k1 + 1, (10 :: W2) ++ S, o2, 0) := by
        intro o2 W2 t22 e
        refine Or.inr ⟨rfl, ?_⟩
        show _ = if yT B n k1 = kI 22 then _ else _
        rw [if_pos t22, e]
        rfl
      have step21 : yT B n k1 = kI 21 → stM (yT B n) (yV B n) (1, k1, wqW x2 x3 ++ S, o1, 0) (0, k1 + 1, [11] ++ S, o1 ++ sW (wqW x2 x3), 0) := by
        intro t21
        refine Or.inr ⟨rfl, ?_⟩
        show _ = if yT B n k1 = kI 22 then _ else _
        rw [if_neg (by rw [t21]; decide), if_pos t21, stO_W wW_ok hS]
        rfl
      have w21 : wqW (kI 1) (kI 21) = [11] := rfl
      have f22 : yT B n k1 = kI 22 → ¬ yT B n k1 = kI 101 := fun e => by rw [e]; decide
      have f21 : yT B n k1 = kI 21 → ¬ yT B n k1 = kI 101 := fun e => by rw [e]; decide
      rcases hs with ⟨gx3, hs⟩ | ⟨gx3, hs⟩
      · have ww : wqW x2 x3 = if x2 = 0 then [] else [11] := by unfold wqW; rw [if_neg gx3, List.nil_append]
        have ww11 : wqW x2 x3 = [] ∨ wqW x2 x3 = [11] := by
          rw [ww]
          by_cases e : x2 = 0
          · rw [if_pos e]; exact Or.inl rfl
          · rw [if_neg e]; exact Or.inr rfl
        have w22 : wqW x2 (kI 22) = 10 :: wqW x2 x3 := by rw [ww]; rfl
        rw [ht] at hs
        rcases hs with ⟨g, M2, e2, hs⟩ | ⟨g, hs⟩
        · refine more (y2 := x2) (y3 := yT B n k1) (o2 := o1) b4 b5 rfl rfl ?_ (f22 g) e2 ?_ hs
          · rw [g, w22, List.length_cons]; omega
          · rw [g, w22]
            exact step22 g (stA_W ww11 hS).1
        · rcases hs with ⟨g2, hs⟩ | ⟨g2, w, M2, h155, hs⟩
          · have w0 : wqW x2 x3 = [] := by rw [ww, if_pos g2]
            have s0 : o1 ++ sW (wqW x2 x3) = o1 := by rw [w0]; exact List.append_nil _
            rcases hs with ⟨g3, M2, e2, hs⟩ | ⟨g3, hv, hN⟩
            · refine more (y2 := kI 1) (y3 := yT B n k1) (o2 := o1 ++ sW (wqW x2 x3)) b4 (by rw [s0]; exact b5) rfl rfl ?_ (f21 g3) e2 ?_ hs
              · rw [g3, w21, s0, List.length_singleton]; omega
              · rw [g3, w21]
                exact step21 g3
            · exact done b4 (by rw [s0]; exact b5) rfl rfl (by rw [s0]; omega) g g3 hv hN
          · have w1 : wqW x2 x3 = [11] := by rw [ww, if_neg g2]
            rw [w1, List.length_singleton] at hl
            obtain ⟨c1, c2, c3, c4⟩ := cL_put (q := (11, kI 0)) ⟨b4, b5, by omega⟩ rfl (by omega) h155
            have s1' : o1 ++ sW (wqW x2 x3) = o1 ++ [(11, kI 0)] := by rw [w1]; rfl
            rcases hs with ⟨g3, M3, e3, hs⟩ | ⟨g3, hv, hN⟩
            · refine more (y2 := kI 1) (y3 := yT B n k1) (o2 := o1 ++ sW (wqW x2 x3)) c1 (by rw [s1']; exact c2) (by rw [c3]) (by rw [c3]) ?_ (f21 g3) e3 ?_ hs
              · rw [g3, w21, s1', w1]
                simp only [List.length_singleton]
                omega
              · rw [g3, w21]
                exact step21 g3
            · exact done c1 (by rw [s1']; exact c2) (by rw [c3]) (by rw [c3]) (by rw [s1', w1, List.length_singleton]; omega) g g3 hv hN
      · have gx3 := Classical.not_not.mp gx3
        obtain ⟨w, M2, h155, hs⟩ := hs
        have ww : wqW x2 x3 = 10 :: (if x2 = 0 then [] else [11]) := by unfold wqW; rw [if_pos gx3]; rfl
        have lw : 1 ≤ (wqW x2 x3).length := by rw [ww, List.length_cons]; omega
        obtain ⟨c1, c2, c3, c4⟩ := cL_put (q := (10, kI 0)) ⟨b4, b5, by omega⟩ rfl (by omega) h155
        obtain ⟨ht2, _, _⟩ := zR_t c1
        rw [ht2] at hs
        have w22 : wqW x2 (kI 22) = 10 :: (if x2 = 0 then [] else [11]) := rfl
        have wf : (if x2 = 0 then ([] : List Nat) else [11]) = [] ∨ (if x2 = 0 then ([] : List Nat) else [11]) = [11] := by
          by_cases e : x2 = 0
          · rw [if_pos e]; exact Or.inl rfl
          · rw [if_neg e]; exact Or.inr rfl
        rcases hs with ⟨g, M3, e3, hs⟩ | ⟨g, hs⟩
        · refine more (y2 := x2) (y3 := yT B n k1) (o2 := o1 ++ [(10, kI 0)]) c1 c2 (by rw [c3]) (by rw [c3]) ?_ (f22 g) e3 ?_ hs
          · rw [g, w22, ww]; omega
          · rw [g, w22]
            refine step22 g ?_
            rw [ww]
            exact (stA_W wf hS).2
        · rcases hs with ⟨g2, hs⟩ | ⟨g2, w', M3, h155b, hs⟩
          · have w1 : wqW x2 x3 = [10] := by rw [ww, if_pos g2]
            have s1' : o1 ++ sW (wqW x2 x3) = o1 ++ [(10, kI 0)] := by rw [w1]; rfl
            rcases hs with ⟨g3, M3, e3, hs⟩ | ⟨g3, hv, hN⟩
            · refine more (y2 := kI 1) (y3 := yT B n k1) (o2 := o1 ++ sW (wqW x2 x3)) c1 (by rw [s1']; exact c2) (by rw [c3]) (by rw [c3]) ?_ (f21 g3) e3 ?_ hs
              · rw [g3, w21, s1', w1]
                simp only [List.length_singleton]
                omega
              · rw [g3, w21]
                exact step21 g3
            · exact done c1 (by rw [s1']; exact c2) (by rw [c3]) (by rw [c3]) (by rw [s1', w1, List.length_singleton]; omega) g g3 hv hN
          · have w2 : wqW x2 x3 = [10, 11] := by rw [ww, if_neg g2]
            have l2 : (wqW x2 x3).length = 2 := by rw [w2]; rfl
            obtain ⟨d1, d2, d3, d4⟩ := cL_put (q := (11, kI 0)) ⟨c1, c2, by omega⟩ rfl (by omega) h155b
            have s2' : o1 ++ sW (wqW x2 x3) = o1 ++ [(10, kI 0)] ++ [(11, kI 0)] := by rw [w2, List.append_assoc]; rfl
            rcases hs with ⟨g3, M4, e4, hs⟩ | ⟨g3, hv, hN⟩
            · refine more (y2 := kI 1) (y3 := yT B n k1) (o2 := o1 ++ sW (wqW x2 x3)) d1 (by rw [s2']; exact d2) (by rw [d3, c3]) (by rw [d3, c3]) ?_ (f21 g3) e4 ?_ hs
              · rw [g3, w21, s2', List.length_singleton]; omega
              · rw [g3, w21]
                exact step21 g3
            · exact done d1 (by rw [s2']; exact d2) (by rw [d3, c3]) (by rw [d3, c3]) (by rw [s2']; omega) g g3 hv hN
    · obtain ⟨k', S', o', f, e1, e2, e3, e4, e5⟩ := bad
      obtain ⟨hv, hN⟩ := tIf_n (nn e3) hs
      exact Or.inr ⟨k', S', o', f, e1, e2, hv, by rw [hN]; exact e4, by rw [hN]; exact e5⟩
end QS
