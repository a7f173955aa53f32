/-! the reference works codes out -/
def evR1 (F : Nat → Int32) (p : Int32 × Int32) (s : List Int32) : List Int32 :=
  if p.1 = 0 then p.2 :: s else if p.1 = kI 1 then F (ix p.2) :: s
  else if p.1 = kI 9 then (match s with | y :: r => (kI 1 - y) :: r | [] => [])
  else match s with | y :: x :: r => f_83 p.1 x y :: r | _ => s
def evR (F : Nat → Int32) : List (Int32 × Int32) → List Int32 → List Int32
  | [], s => s
  | p :: r, s => evR F r (evR1 F p s)
theorem evR_app {F : Nat → Int32} {a b : List (Int32 × Int32)} {s : List Int32} : evR F (a ++ b) s = evR F b (evR F a s) := by
  induction a generalizing s with
  | nil => rfl
  | cons x r ih => exact ih
theorem one_one {y : Int32} : kI 1 - (kI 1 - y) = y := by
  have e : kI 1 - (kI 1 - y) = kI (1 - (1 - y.toInt)) := by
    show kI 1 - (kI 1 - y) = Int32.ofInt (1 - (1 - y.toInt))
    rw [Int32.ofInt_sub, Int32.ofInt_sub, Int32.ofInt_toInt]
  rw [e]
  exact (kI_inj (by omega)).symm
theorem evR_nots {F : Nat → Int32} {y : Int32} {r : List Int32} : ∀ {n : Nat}, evR F (List.replicate n (kI 9, kI 0)) (y :: r) = (if n % 2 = 1 then kI 1 - y else y) :: r ∧ evR F (List.replicate n (kI 9, kI 0)) [] = []
  | 0 => ⟨rfl, rfl⟩
  | n + 1 => by
    have e1 : evR F (List.replicate (n + 1) (kI 9, kI 0)) (y :: r) = evR F (List.replicate n (kI 9, kI 0)) ((kI 1 - y) :: r) := rfl
    have e2 : evR F (List.replicate (n + 1) (kI 9, kI 0)) [] = evR F (List.replicate n (kI 9, kI 0)) [] := rfl
    refine ⟨?_, by rw [e2]; exact (evR_nots (y := y) (r := r) (n := n)).2⟩
    rw [e1, (evR_nots (n := n)).1, one_one]
    by_cases c : n % 2 = 1
    · rw [if_pos c, if_neg (by omega)]
    · rw [if_neg c, if_pos (by omega)]
theorem rcC_o {q : Cd} (h : q.1 ≠ 9) : rcC q = [(kI (q.1 : Nat), q.2)] := by
  obtain ⟨m, a⟩ := q
  unfold rcC
  split
  · rename_i e
    exact absurd e h
  · rfl
theorem evR_one {F : Nat → Int32} {q : Cd} {s : List Int32} {t u : List Bool} (hq : ty1 q t = some u) : evR F (rcC q) s = ev1 F q s := by
  by_cases c9 : q.1 = 9
  · obtain ⟨m, a⟩ := q
    have c9 : m = 9 := c9
    subst c9
    have hn : 0 ≤ a.toInt := by
      unfold ty1 at hq
      rw [if_neg (show ¬ (9 : Nat) = 0 by decide), if_neg (show ¬ (9 : Nat) = 1 by decide), if_pos rfl] at hq
      match t, hq with
      | true :: r, hq =>
        by_cases d : 0 ≤ a.toInt
        · exact d
        · dsimp only at hq
          rw [if_neg d] at hq
          cases hq
    have e : rcC (9, a) = List.replicate a.toInt.toNat (kI 9, kI 0) := rfl
    rw [e]
    unfold ev1
    rw [if_neg (show ¬ (9 : Nat) = 0 by decide), if_neg (show ¬ (9 : Nat) = 1 by decide), if_pos rfl]
    match s with
    | [] => exact (evR_nots (y := 0) (r := [])).2
    | y :: r =>
      rw [(evR_nots).1]
      show _ = (if a.toInt % 2 = 1 then kI 1 - y else y) :: r
      by_cases o : a.toInt % 2 = 1
      · rw [if_pos o, if_pos (by omega)]
      · rw [if_neg o, if_neg (by omega)]
  · rw [rcC_o c9]
    show evR1 F (kI (q.1 : Nat), q.2) s = ev1 F q s
    have h12 : q.1 ≤ 11 := by
      unfold ty1 at hq
      by_cases c0 : q.1 = 0
      · omega
      · rw [if_neg c0] at hq
        by_cases c1 : q.1 = 1
        · omega
        · rw [if_neg c1, if_neg c9] at hq
          by_cases c2 : 2 ≤ q.1 ∧ q.1 ≤ 5
          · omega
          · rw [if_neg c2] at hq
            by_cases c6 : 6 ≤ q.1 ∧ q.1 ≤ 8
            · omega
            · rw [if_neg c6] at hq
              by_cases c10 : q.1 = 10 ∨ q.1 = 11
              · omega
              · rw [if_neg c10] at hq
                cases hq
    have k : ∀ m : Nat, m ≤ 11 → (kI (q.1 : Nat) = kI (m : Nat) ↔ q.1 = m) := fun m hm => by
      rw [yk (by omega) (by omega), kI_toInt (by omega) (by omega)]
      omega
    have k0 : kI (q.1 : Nat) = 0 ↔ q.1 = 0 := k 0 (by omega)
    have k1 : kI (q.1 : Nat) = kI 1 ↔ q.1 = 1 := k 1 (by omega)
    have k9 : kI (q.1 : Nat) = kI 9 ↔ q.1 = 9 := k 9 (by omega)
    unfold evR1 ev1
    dsimp only
    by_cases c0 : q.1 = 0
    · rw [if_pos (k0.mpr c0), if_pos c0]
    · rw [if_neg (fun e => c0 (k0.mp e)), if_neg c0]
      by_cases c1 : q.1 = 1
      · rw [if_pos (k1.mpr c1), if_pos c1]
      · rw [if_neg (fun e => c1 (k1.mp e)), if_neg c1, if_neg (fun e => c9 (k9.mp e)), if_neg c9]
        cases s with
        | nil => rfl
        | cons y r =>
          cases r with
          | nil => rfl
          | cons x r => rfl
theorem evR_ev {F : Nat → Int32} : ∀ {o : List Cd} {s : List Int32} {t u : List Bool}, ty o t = some u → evR F (rcO o) s = ev F o s
  | [], _, _, _, _ => rfl
  | q :: r, s, t, u, hq => by
    obtain ⟨w, a1, _, a3⟩ := ty_cons hq
    have e : rcO (q :: r) = rcC q ++ rcO r := rfl
    rw [e, evR_app, evR_one a1]
    exact evR_ev a3
theorem evR1_two {F : Nat → Int32} {p : Int32 × Int32} {y z : Int32} {t : List Int32} (g : ¬ p.1 = 0) (g1 : ¬ p.1 = kI 1) (g9 : ¬ p.1 = kI 9) : evR1 F p (y :: z :: t) = f_83 p.1 z y :: t := by
  unfold evR1
  rw [if_neg g, if_neg g1, if_neg g9]
theorem evR1_not {F : Nat → Int32} {p : Int32 × Int32} {y : Int32} {t : List Int32} (g : ¬ p.1 = 0) (g1 : ¬ p.1 = kI 1) (g9 : p.1 = kI 9) : evR1 F p (y :: t) = (kI 1 - y) :: t := by
  unfold evR1
  rw [if_neg g, if_neg g1, if_pos g9]
def q84 (p1 p3 : Int32) (k : Nat) (F : Nat → Int32) (x4 x5 : Int32) (M : pMem) (v : Int32) (N : pMem) : Prop := ∀ (i : Nat) (r : List (Int32 × Int32)) (s : List Int32) (y : Int32), x5.toInt = ((500 * k + i : Nat) : Int) → (kI 500 * p1 + p3).toInt = ((500 * k + (i + r.length) : Nat) : Int) → i + r.length ≤ 500 →
  (∀ j x, r[j]? = some x → M 210 (500 * k + (i + j)) = x.1 ∧ M 211 (500 * k + (i + j)) = x.2) → (∀ j, j < 14 → M 216 j = F j) → x4.toInt = s.length → stk M 217 s → evR F r s = [y] → v = y ∧ ∀ b, b ≠ 217 → N b = M b
theorem S_84_1w {p1 p2 p3 : Int32} {k : Nat} (hk : k < 5) {F : Nat → Int32} {P1 : Int32 → Int32 → pMem → pT Int32} (hP : ∀ x4 x5 M v N, P1 x4 x5 M v N → q84 p1 p3 k F x4 x5 M v N) {x4 x5 : Int32} {M : pMem} {v : Int32} {N : pMem} (hs : S_84_1 p1 p2 p3 P1 x4 x5 M v N) : q84 p1 p3 k F x4 x5 M v N := by
  intro i r s y hx he h5 hr hF h4 hst hv
  have k1 : (kI 1).toInt = 1 := rfl
  cases r with
  | nil =>
    rw [List.length_nil, Nat.add_zero] at he
    obtain ⟨_, hv', hN⟩ := tIf_p (show kI 500 * p1 + p3 ≤ x5 by rw [i_le, he, hx]; exact Int.le_refl _) hs
    have hv : s = [y] := hv
    subst hv
    rw [hN]
    exact ⟨by rw [hv']; exact hst 0 y rfl, fun _ _ => rfl⟩
  | cons p r =>
    rw [List.length_cons] at he h5
    have hs := tIf_n (show ¬ kI 500 * p1 + p3 ≤ x5 by rw [i_le, he, hx]; omega) hs
    obtain ⟨_, hs⟩ := hs
    obtain ⟨d1, d2⟩ := hr 0 p rfl
    rw [ix_of hx] at hs
    rw [Nat.add_zero] at d1 d2
    rw [d1, d2] at hs
    have hr' : ∀ j x, r[j]? = some x → M 210 (500 * k + (i + 1 + j)) = x.1 ∧ M 211 (500 * k + (i + 1 + j)) = x.2 := fun j x hj => by
      have := hr (j + 1) x (by rw [List.getElem?_cons_succ]; exact hj)
      rw [show i + 1 + j = i + (j + 1) by omega]
      exact this
    have nx5 : (x5 + kI 1).toInt = ((500 * k + (i + 1) : Nat) : Int) := by rw [i_add1 (by omega), hx]; omega
    have hv : evR F r (evR1 F p s) = [y] := hv
    have go : ∀ {y4 : Int32} {M1 : pMem} {s1 : List Int32} {j : Nat} {z : Int32}, P1 y4 (x5 + kI 1) M1 v N → M1 = aPut M 217 j z → y4.toInt = s1.length → stk M1 217 s1 → evR1 F p s = s1 → v = y ∧ ∀ b, b ≠ 217 → N b = M b := by
      intro y4 M1 s1 j z hs e1 hy hk1 hev
      rw [hev] at hv
      have fr : ∀ b, b ≠ 217 → M1 b = M b := fun b hb => by
        funext j
        rw [e1, aPut_cell hb]
      obtain ⟨a1, a2⟩ := hP _ _ _ _ _ hs (i + 1) r s1 y nx5 (by rw [he]; omega) (by omega) (fun j x hj => by rw [fr 210 (by decide), fr 211 (by decide)]; exact hr' j x hj) (fun k hk => by rw [fr 216 (by decide)]; exact hF k hk) hy hk1 hv
      exact ⟨a1, fun b hb => by rw [a2 b hb, fr b hb]⟩
    rcases hs with ⟨g, _, hs⟩ | ⟨g, _, hs⟩
    · obtain ⟨_, g4, M1, e1, hs⟩ := tIf_n (nn g) hs
      obtain ⟨g5, g6⟩ := ix_in g4
      rw [ix_of h4] at e1 g6
      refine go hs e1 (by rw [i_add1 (by omega), h4, List.length_cons]; omega) (stk_push hst e1) ?_
      unfold evR1
      rw [if_pos g]
    · rcases hs with ⟨g1, _, hs⟩ | ⟨g1, _, hs⟩
      · rcases hs with ⟨g9, _, ga, gb, _, M1, e1, hs⟩ | ⟨g9, ga, _, M1, e1, hs⟩
        · obtain ⟨a1, a2⟩ := ix_in ga
          obtain ⟨b1, b2⟩ := ix_in gb
          have rg := i_rg x4
          have f1 : (x4 - kI 1).toInt = (s.length : Int) - 1 := by rw [i_sub (by rw [h4, k1]; omega) (by rw [h4, k1]; omega), h4, k1]
          have f2 : (x4 - kI 1 - kI 1).toInt = (s.length : Int) - 2 := by rw [i_sub (by rw [f1, k1]; omega) (by rw [f1, k1]; omega), f1, k1]; omega
          obtain ⟨y2, z, t, es⟩ := two_of (s := s) (by omega)
          have e0 : evR1 F p s = f_83 p.1 z y2 :: t := by rw [es]; exact evR1_two g g1 g9
          have ls : s.length = t.length + 1 + 1 := by rw [es]; rfl
          have hst' := hst
          rw [es] at hst'
          have f1' : (x4 - kI 1).toInt = ((t.length + 1 : Nat) : Int) := by rw [f1]; omega
          have f2' : (x4 - kI 1 - kI 1).toInt = ((t.length : Nat) : Int) := by rw [f2]; omega
          rw [ix_of f1', ix_of f2'] at e1
          obtain ⟨t1, t2⟩ := stk_pop hst'
          obtain ⟨t3, t4⟩ := stk_pop t1
          rw [List.length_cons] at t2
          rw [t2, t4] at e1
          exact go (s1 := f_83 p.1 z y2 :: t) hs e1 (by rw [f1', List.length_cons]) (stk_push t3 e1) e0
        · have e9 := Classical.not_not.mp g9
          obtain ⟨a1, a2⟩ := ix_in ga
          have rg := i_rg x4
          have f1 : (x4 - kI 1).toInt = (s.length : Int) - 1 := by rw [i_sub (by rw [h4, k1]; omega) (by rw [h4, k1]; omega), h4, k1]
          obtain ⟨z, t, es⟩ := one_of (s := s) (by omega)
          have e0 : evR1 F p s = (kI 1 - z) :: t := by rw [es]; exact evR1_not g g1 e9
          have ls : s.length = t.length + 1 := by rw [es]; rfl
          have hst' := hst
          rw [es] at hst'
          have f1' : (x4 - kI 1).toInt = ((t.length : Nat) : Int) := by rw [f1]; omega
          rw [ix_of f1'] at e1
          obtain ⟨t1, t2⟩ := stk_pop hst'
          rw [t2] at e1
          exact go (s1 := (kI 1 - z) :: t) hs e1 (by rw [h4, ls, List.length_cons]) (stk_push t1 e1) e0
      · have e1' := Classical.not_not.mp g1
        have hs := tIf_p g hs
        obtain ⟨_, g3, g4, M1, e1, hs⟩ := hs
        obtain ⟨g5, g6⟩ := ix_in g4
        obtain ⟨g7, g8⟩ := ix_in g3
        rw [ix_of h4] at e1 g6
        rw [hF _ g8] at e1
        refine go hs e1 (by rw [i_add1 (by omega), h4, List.length_cons]; omega) (stk_push hst e1) ?_
        unfold evR1
        rw [if_neg g, if_pos e1']
theorem D_84_w {p1 p2 p3 : Int32} {k a : Nat} (hk : k < 5) {F : Nat → Int32} {r : List (Int32 × Int32)} {y : Int32} {M : pMem} (h1 : p1.toInt = k) (h2 : p2.toInt = a) (h3 : p3.toInt = ((a + r.length : Nat) : Int)) (h5 : a + r.length ≤ 500) (hr : ∀ j x, r[j]? = some x → M 210 (500 * k + (a + j)) = x.1 ∧ M 211 (500 * k + (a + j)) = x.2) (hF : ∀ j, j < 14 → M 216 j = F j) (hv : evR F r [] = [y]) {v : Int32} {N : pMem} (h : D_84 p1 p2 p3 M v N) : v = y ∧ ∀ b, b ≠ 217 → N b = M b := by
  have q : q84 p1 p3 k F (kI 0) (kI 500 * p1 + p2) M v N := h (q84 p1 p3 k F) (fun _ _ _ _ _ hs => S_84_1w hk (fun _ _ _ _ _ h => h) hs)
  have m : (kI 500 * p1).toInt = 500 * k := by rw [i_mul (by rw [h1, kI_toInt (by decide) (by decide)]; omega) (by rw [h1, kI_toInt (by decide) (by decide)]; omega), h1, kI_toInt (by decide) (by decide)]
  exact q a r [] y (by rw [i_add (by rw [m, h2]; omega) (by rw [m, h2]; omega), m, h2]; omega) (by rw [i_add (by rw [m, h3]; omega) (by rw [m, h3]; omega), m, h3]; omega) h5 hr hF rfl (fun i x hi => by cases hi) hv
/-- the reference's law at k -/
def rLR (M : pMem) (k : Nat) (o : List Cd) (L : List Ln) : Prop := rfLaw (M 204 k) (M 205) (M 206) (M 207) (M 208) (16 * k) (M 209 k) (M 210) (M 211) (500 * k) o L ∧ (rcO o).length ≤ 500
theorem rLR_eq {M N : pMem} {k : Nat} {o : List Cd} {L : List Ln} (h : rLR M k o L) (e : ∀ b, 204 ≤ b → b ≤ 211 → N b = M b) : rLR N k o L := by
  unfold rLR at h ⊢
  rw [e 204 (by decide) (by decide), e 205 (by decide) (by decide), e 206 (by decide) (by decide), e 207 (by decide) (by decide), e 208 (by decide) (by decide), e 209 (by decide) (by decide), e 210 (by decide) (by decide), e 211 (by decide) (by decide)]
  exact h
theorem rcO_sl {o : List Cd} {a b : Nat} (h : a ≤ b) : rcO (o.take b) = rcO (o.take a) ++ rcO (sl o a b) := by
  rw [← rcO_app]
  unfold sl
  have e : o.take a = (o.take b).take a := by rw [List.take_take, Nat.min_eq_left h]
  rw [e, List.take_append_drop]
theorem rcO_all {o : List Cd} {b : Nat} : rcO o = rcO (o.take b) ++ rcO (o.drop b) := by
  rw [← rcO_app, List.take_append_drop]
theorem rf_work {M : pMem} {k : Nat} (hk : k < 5) {o : List Cd} {L : List Ln} (h : rLR M k o L) {F : Nat → Int32} (hF : ∀ k, k < 14 → M 216 k = F k) {a b : Nat} {t : Bool} (hab : a ≤ b) (hty : ty (sl o a b) [] = some [t]) {p1 p2 p3 : Int32} (h1 : p1.toInt = k) (h2 : p2.toInt = (rcO (o.take a)).length) (h3 : p3.toInt = (rcO (o.take b)).length) {v : Int32} {N : pMem} (hD : D_84 p1 p2 p3 M v N) : v = (ev F (sl o a b) []).headD 0 ∧ ∀ b, b ≠ 217 → N b = M b := by
  obtain ⟨_, _, e3⟩ := evS_ev (F := F) (o := sl o a b) (s := []) (t := []) trivial (by decide) hty
  obtain ⟨y, ey, _⟩ := tv_one e3
  have es := rcO_sl (o := o) hab
  have ea := rcO_all (o := o) (b := b)
  have hl : (rcO (o.take b)).length = (rcO (o.take a)).length + (rcO (sl o a b)).length := by rw [es, List.length_append]
  have ha : (rcO o).length = (rcO (o.take b)).length + (rcO (o.drop b)).length := by
    rw [← List.length_append, ← ea]
  obtain ⟨⟨_, _, g3, _⟩, g5⟩ := h
  have r := D_84_w hk h1 h2 (h3.trans (by rw [hl])) (by omega) (fun j x hj => g3 _ x (by
    have hj2 := (List.getElem?_eq_some_iff.mp hj).1
    rw [ea, es, List.append_assoc, List.getElem?_append_right (by omega), Nat.add_sub_cancel_left, List.getElem?_append_left hj2]
    exact hj)) hF ((evR_ev (F := F) (s := []) hty).trans ey) hD
  rw [ey]
  exact r
/-- what else is as it was -/
def fr85 (M N : pMem) : Prop := (∀ b, b ≠ 217 → b ≠ 188 → N b = M b) ∧ ∀ j, j ≠ 51 → N 188 j = M 188 j
theorem fr85_t {M N K : pMem} (h : fr85 M N) (g : fr85 N K) : fr85 M K := ⟨fun b h1 h2 => (g.1 b h1 h2).trans (h.1 b h1 h2), fun j hj => (g.2 j hj).trans (h.2 j hj)⟩
theorem fr85_w {M N : pMem} (h : ∀ b, b ≠ 217 → N b = M b) : fr85 M N := ⟨fun b h1 _ => h b h1, fun j _ => by rw [h 188 (by decide)]⟩
theorem fr85_p {M : pMem} {x : Int32} : fr85 M (aPut M 188 51 x) := ⟨fun b _ h => by
  funext j
  exact aPut_cell h, fun j hj => aPut_at hj⟩
def q85 (p1 w : Int32) (k : Nat) (F : Nat → Int32) (o : List Cd) (L : List Ln) (x2 : Int32) (M : pMem) (v : Int32) (N : pMem) : Prop := ∀ i : Nat, x2.toInt = ((16 * k + i : Nat) : Int) → i ≤ L.length → rLR M k o L → (∀ k, k < 14 → M 216 k = F k) → (M 188 4).toInt = k →
  v = (teL F o w (L.drop i)).getD 0 ∧ N 188 51 = (if teL F o w (L.drop i) = none then kI 0 else kI 1) ∧ fr85 M N
theorem S_85_1w {p1 w : Int32} (hw1 : w.toInt = p1.toInt + 14) {k : Nat} (hk : k < 5) {F : Nat → Int32} {o : List Cd} {L : List Ln} (hL : L.length ≤ 16) (hw : wfLw o L) {P1 : Int32 → pMem → pT Int32} (hP : ∀ x2 M v N, P1 x2 M v N → q85 p1 w k F o L x2 M v N) {x2 : Int32} {M : pMem} {v : Int32} {N : pMem} (hs : S_85_1 p1 P1 x2 M v N) : q85 p1 w k F o L x2 M v N := by
  intro i hx hi hc hF h4
  obtain ⟨⟨c1, c2, c3, c4⟩, c5⟩ := id hc
  obtain ⟨_, hs⟩ := hs
  have m : (kI 16 * M 188 4).toInt = 16 * k := by rw [i_mul (by rw [h4, kI_toInt (by decide) (by decide)]; omega) (by rw [h4, kI_toInt (by decide) (by decide)]; omega), h4, kI_toInt (by decide) (by decide)]
  have me : (kI 16 * M 188 4 + M 204 (ix (M 188 4))).toInt = ((16 * k + L.length : Nat) : Int) := by
    rw [ix_of h4, i_add (by rw [m, c1]; omega) (by rw [m, c1]; omega), m, c1]
    omega
  rcases hs with ⟨g, M1, e1, hv, hN⟩ | ⟨g, _, hs⟩
  · rw [i_le, me, hx] at g
    rw [hN, e1, drop_nil (by omega)]
    exact ⟨hv, aPut_same, fr85_p⟩
  · rw [i_le, me, hx] at g
    have hi2 : i < L.length := by omega
    rw [ix_of hx] at hs
    have hx0 : L[i]? = some L[i] := List.getElem?_eq_getElem hi2
    obtain ⟨d1, d2, d3, d4, d5, d6, d7⟩ := c4 i L[i] hx0
    obtain ⟨w1, w2, w3, w4, w5⟩ := hw L[i] (List.getElem_mem hi2)
    rw [drop_at hi2]
    have nx : (x2 + kI 1).toInt = ((16 * k + (i + 1) : Nat) : Int) := by rw [i_add1 (by omega), hx]; omega
    have e8 := rcO_sl (o := o) w2
    have l8 : (rcO (o.take L[i].2.2.2)).length = (rcO (o.take L[i].2.2.1)).length + (rcO (sl o L[i].2.2.1 L[i].2.2.2)).length := by rw [e8, List.length_append]
    have wd : M 205 (16 * k + i) = p1 ↔ L[i].1 = w := by rw [i_eq, i_eq, hw1, ← d1]; omega
    have skip : ∀ {M1 : pMem}, P1 (x2 + kI 1) M1 v N → (∀ b, b ≠ 217 → M1 b = M b) → ¬ (L[i].1 = w ∧ (L[i].2.2.1 = L[i].2.2.2 ∨ ¬ (ev F (sl o L[i].2.2.1 L[i].2.2.2) []).headD 0 = 0)) →
        v = (teL F o w (L[i] :: L.drop (i + 1))).getD 0 ∧ N 188 51 = (if teL F o w (L[i] :: L.drop (i + 1)) = none then kI 0 else kI 1) ∧ fr85 M N := by
      intro M1 hs fr hn
      obtain ⟨a1, a2, a3⟩ := hP _ _ _ _ hs (i + 1) nx (by omega) (rLR_eq hc (fun b hb1 hb2 => fr b (by omega))) (fun k hk => by rw [fr 216 (by decide)]; exact hF k hk) (by rw [fr 188 (by decide)]; exact h4)
      have e : teL F o w (L[i] :: L.drop (i + 1)) = teL F o w (L.drop (i + 1)) := by
        exact teL_n hn
      rw [e]
      exact ⟨a1, a2, fr85_t (fr85_w fr) a3⟩
    have take : ∀ {M1 : pMem} {v1 : Int32} {M2 : pMem}, (∀ b, b ≠ 217 → M1 b = M b) → D_84 ((aPut M1 188 51 (kI 1)) 188 4) ((aPut M1 188 51 (kI 1)) 206 (16 * k + i)) ((aPut M1 188 51 (kI 1)) 207 (16 * k + i)) (aPut M1 188 51 (kI 1)) v1 M2 → v = v1 → N = M2 → (L[i].1 = w ∧ (L[i].2.2.1 = L[i].2.2.2 ∨ ¬ (ev F (sl o L[i].2.2.1 L[i].2.2.2) []).headD 0 = 0)) →
        v = (teL F o w (L[i] :: L.drop (i + 1))).getD 0 ∧ N 188 51 = (if teL F o w (L[i] :: L.drop (i + 1)) = none then kI 0 else kI 1) ∧ fr85 M N := by
      intro M1 v1 M2 fr hD hv hN hy
      have f2 : ∀ b, b ≠ 217 → b ≠ 188 → (aPut M1 188 51 (kI 1)) b = M b := fun b h1 h2 => by
        rw [← fr b h1]
        funext j
        exact aPut_cell h2
      rw [aPut_at (show (4 : Nat) ≠ 51 by decide), fr 188 (by decide), f2 206 (by decide) (by decide), f2 207 (by decide) (by decide)] at hD
      obtain ⟨a1, a2⟩ := rf_work (F := F) hk (rLR_eq hc (fun b hb1 hb2 => f2 b (by omega) (by omega))) (fun k hk => by rw [f2 216 (by decide) (by decide)]; exact hF k hk) w1 w4 h4 d2 d3 hD
      have e : teL F o w (L[i] :: L.drop (i + 1)) = some ((ev F (sl o L[i].2.1 L[i].2.2.1) []).headD 0) := by
        exact teL_y hy
      rw [e, hv, hN]
      refine ⟨a1, ?_, fr85_t (fr85_w fr) (fr85_t fr85_p (fr85_w a2))⟩
      rw [a2 188 (by decide), aPut_same, if_neg (by intro q; cases q)]
    rcases hs with ⟨g2, hs⟩ | ⟨g2, _, _, hs⟩
    · exact skip hs (fun _ _ => rfl) (fun q => g2 (wd.mpr q.1))
    · have hwd := wd.mp (Classical.not_not.mp g2)
      rcases hs with ⟨g3, M1, e1, _, _, v1, M2, hD, hv, hN⟩ | ⟨g3, _, _, v1, M1, hD, hs⟩
      · rw [e1] at hD
        refine take (fun _ _ => rfl) hD hv hN ⟨hwd, Or.inl ?_⟩
        rcases w5 with e | e
        · exact e
        · have q := rcO_ne e
          rw [i_le, d3, d4, l8] at g3
          exact absurd (List.eq_nil_of_length_eq_zero (by omega)) q
      · have ne : ¬ L[i].2.2.1 = L[i].2.2.2 := fun e => g3 (by rw [i_le, d3, d4, e]; exact Int.le_refl _)
        have t5 := w5.resolve_left ne
        obtain ⟨a1, a2⟩ := rf_work hk hc hF w2 t5 h4 d3 d4 hD
        rcases hs with ⟨g4, M2, e2, _, _, v2, M3, hD2, hv, hN⟩ | ⟨g4, hs⟩
        · rw [e2] at hD2
          refine take a2 hD2 hv hN ⟨hwd, Or.inr ?_⟩
          rw [← a1]
          exact g4
        · refine skip hs a2 (fun q => q.2.elim ne (fun q => q ?_))
          rw [← a1]
          exact Classical.not_not.mp g4
theorem D_85_w {p1 w : Int32} (hw1 : w.toInt = p1.toInt + 14) {k : Nat} (hk : k < 5) {F : Nat → Int32} {o : List Cd} {L : List Ln} (hL : L.length ≤ 16) (hw : wfLw o L) {M : pMem} (hc : rLR M k o L) (hF : ∀ k, k < 14 → M 216 k = F k) (h4 : (M 188 4).toInt = k) {v : Int32} {N : pMem} (h : D_85 p1 M v N) :
    v = (teL F o w L).getD 0 ∧ N 188 51 = (if teL F o w L = none then kI 0 else kI 1) ∧ fr85 M N := by
  have q : q85 p1 w k F o L (kI 16 * M 188 4) M v N := h (q85 p1 w k F o L) (fun _ _ _ _ hs => S_85_1w hw1 hk hL hw (fun _ _ _ _ h => h) hs)
  exact q 0 (by rw [i_mul (by rw [h4, kI_toInt (by decide) (by decide)]; omega) (by rw [h4, kI_toInt (by decide) (by decide)]; omega), h4, kI_toInt (by decide) (by decide)]; omega) (Nat.zero_le _) hc hF h4
