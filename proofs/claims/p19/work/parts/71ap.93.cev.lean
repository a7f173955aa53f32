/-! the class works steps out, and finds the line that holds -/
/-- a list of two or more -/
theorem two_of {s : List Int32} (h : 2 ≤ s.length) : ∃ y z t, s = y :: z :: t := by
  cases s with
  | nil => exact absurd h (by decide)
  | cons y t =>
    cases t with
    | nil => exact absurd h (show ¬ 2 ≤ 1 by decide)
    | cons z t => exact ⟨y, z, t, rfl⟩
theorem one_of {s : List Int32} (h : 1 ≤ s.length) : ∃ y t, s = y :: t := by
  cases s with
  | nil => exact absurd h (by decide)
  | cons y t => exact ⟨y, t, rfl⟩
theorem evS1_lt {F : Nat → Int32} {x : Int32} {s : List Int32} (c : ¬ 0 ≤ x.toInt) (n : ¬ x = kI (-23)) (h : s.length < 2) : evS1 F x s = s := by
  unfold evS1
  rw [if_neg c, if_neg n]
  cases s with
  | nil => rfl
  | cons y t =>
    cases t with
    | nil => rfl
    | cons z t =>
      rw [List.length_cons, List.length_cons] at h
      omega
theorem evS1_two {F : Nat → Int32} {x y z : Int32} {t : List Int32} (c : ¬ 0 ≤ x.toInt) (n : ¬ x = kI (-23)) : evS1 F x (y :: z :: t) = f_159 (-x) z y :: t := by
  unfold evS1
  rw [if_neg c, if_neg n]
theorem evS1_not {F : Nat → Int32} {x y : Int32} {t : List Int32} (c : ¬ 0 ≤ x.toInt) (n : x = kI (-23)) : evS1 F x (y :: t) = (kI 1 - y) :: t := by
  unfold evS1
  rw [if_neg c, if_pos n]
theorem evS1_not0 {F : Nat → Int32} {x : Int32} (c : ¬ 0 ≤ x.toInt) (n : x = kI (-23)) : evS1 F x [] = [] := by
  unfold evS1
  rw [if_neg c, if_pos n]
theorem dn1 {x : Int32} {n : Nat} (h : x.toInt = ((n + 1 : Nat) : Int)) : (x + kI (-1)).toInt = (n : Nat) := by
  have m1 : (kI (-1)).toInt = -1 := by decide
  have rg := i_rg x
  rw [h] at rg
  rw [i_add (by rw [m1, h]; omega) (by rw [m1, h]; omega), m1, h]
  omega
theorem dn2 {x : Int32} {n : Nat} (h : x.toInt = ((n + 1 : Nat) : Int)) : (x - kI 1).toInt = (n : Nat) := by
  have rg := i_rg x
  rw [h] at rg
  rw [i_sub (by rw [h, kI1]; omega) (by rw [h, kI1]; omega), h, kI1]
  omega
def q158 (l fa : Nat) (p2 : Int32) (F : Nat → Int32) (x4 x5 : Int32) (M : pMem) (v : Int32) (N : pMem) : Prop := ∀ (i : Nat) (r s : List Int32), x5.toInt = i → p2.toInt = ((i + r.length : Nat) : Int) → i + r.length ≤ 500 →
  (∀ j x, r[j]? = some x → M (l + 5) (i + j) = x) → (∀ k, k < 14 → M fa k = F k) → x4.toInt = s.length → s.length ≤ 32 → stk M (l + 6) s → hS F r s → v = (evS F r s).headD 0 ∧ ∀ b, b ≠ l + 6 → N b = M b
theorem S_158_1w {l fa : Nat} (hfa : fa ≠ l + 6) {p1 p2 : Int32} {F : Nat → Int32} {P1 : Int32 → Int32 → pMem → pT Int32} (hP : ∀ x4 x5 M v N, P1 x4 x5 M v N → q158 l fa p2 F x4 x5 M v N) {x4 x5 : Int32} {M : pMem} {v : Int32} {N : pMem} (hs : S_158_1 l p1 p2 fa P1 x4 x5 M v N) : q158 l fa p2 F x4 x5 M v N := by
  intro i r s hx h2 h5 hr hF h4 h32 hst hh
  have k32 : (Int32.ofNat 32).toInt = 32 := by decide
  have k14 : (Int32.ofNat 14).toInt = 14 := by decide
  have k1 : (kI 1).toInt = 1 := rfl
  have hs := tIf_n (show ¬ x5 < 0 by rw [i_lt, hx, i_0]; omega) hs
  cases r with
  | nil =>
    have h2' : p2.toInt = i := by rw [h2]; show ((i + 0 : Nat) : Int) = i; omega
    have hs := tIf_p (show p2 ≤ x5 by rw [i_le, hx, h2']; omega) hs
    have nx : ∀ {q : Int32}, q.toInt = ((s.length - 1 : Nat) : Int) → s ≠ [] → v = M (l + 6) (ix q) → v = s.headD 0 := by
      intro q hq hne hv
      cases s with
      | nil => exact absurd rfl hne
      | cons x s' =>
        rw [hv, ix_of hq]
        exact (stk_pop hst).2
    rcases hs with ⟨g, hv, hN⟩ | ⟨g, c, hv, hN⟩
    · rw [i_le, h4, i_0] at g
      have e : s = [] := List.eq_nil_of_length_eq_zero (by omega)
      rw [hN, e]
      exact ⟨hv, fun _ _ => rfl⟩
    · rw [i_le, h4, i_0] at g
      rw [hN]
      refine ⟨nx (q := x4 - kI 1) ?_ (fun e => by rw [e] at g; exact g (Int.le_refl _)) hv, fun _ _ => rfl⟩
      rw [i_sub (by omega) (by omega), h4, k1]
      omega
  | cons x r =>
    have hlen : (x :: r).length = r.length + 1 := rfl
    rw [hlen] at h2 h5
    have hs := tIf_n (show ¬ p2 ≤ x5 by rw [i_le, hx, h2]; omega) hs
    have hs := tIf_n (show ¬ kI 500 ≤ x5 by rw [i_le, hx, kI_toInt (by decide) (by decide)]; omega) hs
    obtain ⟨_, hs⟩ := hs
    have ex : M (l + 5) (ix x5) = x := by rw [ix_of hx]; exact hr 0 x rfl
    rw [ex] at hs
    have xr := i_rg x
    have hr' : ∀ j y, r[j]? = some y → M (l + 5) (i + 1 + j) = y := fun j y hj => by
      have := hr (j + 1) y (by rw [List.getElem?_cons_succ]; exact hj)
      rw [show i + 1 + j = i + (j + 1) by omega]
      exact this
    have nx5 : (x5 + kI 1).toInt = ((i + 1 : Nat) : Int) := by rw [i_add1 (by omega), hx]; omega
    obtain ⟨hh1, hh2⟩ := hh
    -- further with another stack
    have go : ∀ {y4 : Int32} {M1 : pMem} {s1 : List Int32}, P1 y4 (x5 + kI 1) M1 v N → (∀ b, b ≠ l + 6 → M1 b = M b) → y4.toInt = s1.length → s1.length ≤ 32 → stk M1 (l + 6) s1 → evS1 F x s = s1 → v = (evS F (x :: r) s).headD 0 ∧ ∀ b, b ≠ l + 6 → N b = M b := by
      intro y4 M1 s1 hs fr hy hl hk he
      rw [he] at hh2
      obtain ⟨a1, a2⟩ := hP _ _ _ _ _ hs (i + 1) r s1 nx5 (by rw [h2]; omega) (by omega) (fun j y hj => by rw [fr (l + 5) (by omega)]; exact hr' j y hj) (fun k hk => by rw [fr fa hfa]; exact hF k hk) hy hl hk hh2
      refine ⟨?_, fun b hb => by rw [a2 b hb, fr b hb]⟩
      rw [a1]
      show (evS F r s1).headD 0 = (evS F r (evS1 F x s)).headD 0
      rw [he]
    have frp : ∀ {M1 : pMem} {j : Nat} {y : Int32}, M1 = aPut M (l + 6) j y → ∀ b, b ≠ l + 6 → M1 b = M b := fun e b hb => by
      funext j
      rw [e, aPut_cell hb]
    by_cases c : 0 ≤ x.toInt
    · obtain ⟨d1, d2⟩ := hh1 c
      have hs := tIf_n (show ¬ x < 0 by rw [i_lt, i_0]; omega) hs
      have e10 : (x - kI 10000).toInt = x.toInt - 10000 := by rw [i_sub (by rw [kI_toInt (by decide) (by decide)]; omega) (by rw [kI_toInt (by decide) (by decide)]; omega), kI_toInt (by decide) (by decide)]
      have hs := tIf_n (show ¬ Int32.ofNat 14 ≤ x - kI 10000 by rw [i_le, k14, e10]; omega) hs
      have hs := tIf_n (show ¬ Int32.ofNat 32 ≤ x4 by rw [i_le, k32, h4]; omega) hs
      have ny4 : (x4 + kI 1).toInt = ((s.length + 1 : Nat) : Int) := by rw [i_add1 (by omega), h4]; omega
      rcases hs with ⟨g, g2, _, M1, e1, hs⟩ | ⟨g, _, M1, e1, hs⟩
      · rw [i_le, i_0, e10] at g
        rw [ix_of h4] at e1
        obtain ⟨g3, g4⟩ := ix_in g2
        rw [hF _ g4] at e1
        refine go (s1 := F (ix (x - kI 10000)) :: s) hs (frp e1) ny4 (by rw [List.length_cons]; omega) (stk_push hst e1) ?_
        unfold evS1
        rw [if_pos c, if_neg (by omega)]
      · rw [i_le, i_0, e10] at g
        rw [ix_of h4] at e1
        refine go (s1 := x :: s) hs (frp e1) ny4 (by rw [List.length_cons]; omega) (stk_push hst e1) ?_
        unfold evS1
        rw [if_pos c, if_pos (by omega)]
    · have hs := tIf_p (show x < 0 by rw [i_lt, i_0]; omega) hs
      rcases hs with ⟨n23, hs⟩ | ⟨g, hs⟩
      · have hs := tIf_n (show ¬ 0 ≤ x by rw [i_le, i_0]; omega) hs
        rcases hs with ⟨g, hs⟩ | ⟨g, _, _, _, M1, e1, hs⟩
        · rw [i_lt, h4, kI_toInt (by decide) (by decide)] at g
          exact go hs (fun _ _ => rfl) h4 h32 hst (evS1_lt c n23 (by omega))
        · rw [i_lt, h4, kI_toInt (by decide) (by decide)] at g
          obtain ⟨y, z, t, es⟩ := two_of (s := s) (by omega)
          have e0 : evS1 F x s = f_159 (-x) z y :: t := by rw [es]; exact evS1_two c n23
          have ls : s.length = t.length + 1 + 1 := by rw [es]; rfl
          rw [es] at hst
          have l32 : (f_159 (-x) z y :: t).length ≤ 32 := by rw [List.length_cons]; omega
          have f1 : (x4 + kI (-1)).toInt = ((t.length + 1 : Nat) : Int) := dn1 (by rw [h4, ls])
          have f2 : (x4 + kI (-1) - kI 1).toInt = ((t.length : Nat) : Int) := dn2 f1
          rw [ix_of f1, ix_of f2] at e1
          obtain ⟨t1, t2⟩ := stk_pop hst
          obtain ⟨t3, t4⟩ := stk_pop t1
          rw [List.length_cons] at t2
          rw [t2, t4] at e1
          exact go (s1 := f_159 (-x) z y :: t) hs (frp e1) (by rw [f1, List.length_cons]) l32 (stk_push t3 e1) e0
      · have e23 := Classical.not_not.mp g
        rcases hs with ⟨g2, hs⟩ | ⟨g2, _, _, M1, e1, hs⟩
        · rw [i_lt, h4, k1] at g2
          have hs := tIf_n (show ¬ 0 ≤ x by rw [i_le, i_0]; omega) hs
          have hs := tIf_p (show x4 < kI 2 by rw [i_lt, h4, kI_toInt (by decide) (by decide)]; omega) hs
          have es : s = [] := List.eq_nil_of_length_eq_zero (by omega)
          exact go hs (fun _ _ => rfl) h4 h32 hst (by rw [es]; exact evS1_not0 c e23)
        · rw [i_lt, h4, k1] at g2
          obtain ⟨y, t, es⟩ := one_of (s := s) (by omega)
          have e0 : evS1 F x s = (kI 1 - y) :: t := by rw [es]; exact evS1_not c e23
          have ls : s.length = t.length + 1 := by rw [es]; rfl
          rw [es] at hst
          have l32 : ((kI 1 - y) :: t).length ≤ 32 := by rw [List.length_cons]; omega
          have f2 : (x4 - kI 1).toInt = ((t.length : Nat) : Int) := dn2 (by rw [h4, ls])
          rw [ix_of f2] at e1
          obtain ⟨t1, t2⟩ := stk_pop hst
          rw [t2] at e1
          exact go (s1 := (kI 1 - y) :: t) hs (frp e1) (by rw [h4, ls, List.length_cons]) l32 (stk_push t1 e1) e0
theorem D_158_w {l fa a : Nat} (hfa : fa ≠ l + 6) {p1 p2 : Int32} {F : Nat → Int32} {st : List Int32} {M : pMem} (h1 : p1.toInt = a) (h2 : p2.toInt = ((a + st.length : Nat) : Int)) (h5 : a + st.length ≤ 500) (hr : ∀ j x, st[j]? = some x → M (l + 5) (a + j) = x) (hF : ∀ k, k < 14 → M fa k = F k) (hh : hS F st []) {v : Int32} {N : pMem} (h : D_158 l p1 p2 fa M v N) : v = (evS F st []).headD 0 ∧ ∀ b, b ≠ l + 6 → N b = M b := by
  have q : q158 l fa p2 F (kI 0) p1 M v N := h (q158 l fa p2 F) (fun _ _ _ _ _ hs => S_158_1w hfa (fun _ _ _ _ _ h => h) hs)
  exact q a st [] h1 h2 h5 hr hF rfl (by decide) (fun i x hi => by cases hi) hh
/-! lines -/
def sl (o : List Cd) (a b : Nat) : List Cd := (o.take b).drop a
theorem stC_sl {o : List Cd} {a b : Nat} (h : a ≤ b) (hb : b ≤ o.length) : stC (o.take b) = stC (o.take a) ++ stC (sl o a b) := by
  rw [← stC_app]
  unfold sl
  have e : o.take a = (o.take b).take a := by rw [List.take_take, Nat.min_eq_left h]
  rw [e, List.take_append_drop]
theorem stC_all {o : List Cd} {b : Nat} : stC o = stC (o.take b) ++ stC (o.drop b) := by
  rw [← stC_app, List.take_append_drop]
def wfLn (o : List Cd) (x : Ln) : Prop := x.2.1 ≤ x.2.2.1 ∧ x.2.2.1 ≤ x.2.2.2 ∧ x.2.2.2 ≤ o.length ∧ ty (sl o x.2.1 x.2.2.1) [] = some [false] ∧ (x.2.2.1 = x.2.2.2 ∨ ty (sl o x.2.2.1 x.2.2.2) [] = some [true])
def wfLw (o : List Cd) (L : List Ln) : Prop := ∀ x, x ∈ L → wfLn o x
def teL (F : Nat → Int32) (o : List Cd) (w : Int32) : List Ln → Option Int32
  | [] => none
  | x :: r => if x.1 = w ∧ (x.2.2.1 = x.2.2.2 ∨ ¬ (ev F (sl o x.2.2.1 x.2.2.2) []).headD 0 = 0) then some ((ev F (sl o x.2.1 x.2.2.1) []).headD 0) else teL F o w r
theorem teL_n {F : Nat → Int32} {o : List Cd} {w : Int32} {x : Ln} {r : List Ln} (h : ¬ (x.1 = w ∧ (x.2.2.1 = x.2.2.2 ∨ ¬ (ev F (sl o x.2.2.1 x.2.2.2) []).headD 0 = 0))) : teL F o w (x :: r) = teL F o w r := by
  show (if x.1 = w ∧ (x.2.2.1 = x.2.2.2 ∨ ¬ (ev F (sl o x.2.2.1 x.2.2.2) []).headD 0 = 0) then some ((ev F (sl o x.2.1 x.2.2.1) []).headD 0) else teL F o w r) = _
  rw [if_neg h]
theorem teL_y {F : Nat → Int32} {o : List Cd} {w : Int32} {x : Ln} {r : List Ln} (h : x.1 = w ∧ (x.2.2.1 = x.2.2.2 ∨ ¬ (ev F (sl o x.2.2.1 x.2.2.2) []).headD 0 = 0)) : teL F o w (x :: r) = some ((ev F (sl o x.2.1 x.2.2.1) []).headD 0) := by
  show (if x.1 = w ∧ (x.2.2.1 = x.2.2.2 ∨ ¬ (ev F (sl o x.2.2.1 x.2.2.2) []).headD 0 = 0) then some ((ev F (sl o x.2.1 x.2.2.1) []).headD 0) else teL F o w r) = _
  rw [if_pos h]
theorem tv_one {s : List Int32} {b : Bool} (h : tv s [b]) : ∃ x, s = [x] ∧ (b = true → bo x) := by
  obtain ⟨x, r, rfl, h1, h2⟩ := tv_cons h
  cases r with
  | nil => exact ⟨x, rfl, h1⟩
  | cons y t => exact h2.elim
theorem stC_ne {o : List Cd} {b : Bool} (h : ty o [] = some [b]) : stC o ≠ [] := fun e => by
  obtain ⟨a1, a2, a3⟩ := evS_ev (F := fun _ => 0) (o := o) (s := []) (t := []) trivial (by decide) h
  rw [e] at a1
  have a1 : [] = ev (fun _ => 0) o [] := a1
  rw [← a1] at a3
  exact a3.elim
theorem rcO_ne {o : List Cd} {b : Bool} (h : ty o [] = some [b]) : rcO o ≠ [] := fun e => by
  cases o with
  | nil =>
    have h : some ([] : List Bool) = some [b] := h
    injection h with h
    cases h
  | cons q r =>
    obtain ⟨u, u1, u2, u3⟩ := ty_cons h
    have e2 : rcC q ++ rcO r = [] := e
    have e3 := (List.append_eq_nil_iff.mp e2).1
    unfold ty1 at u1
    by_cases c0 : q.1 = 0
    · have : rcC q = [(kI (0 : Nat), q.2)] := by unfold rcC; rw [c0]; rfl
      rw [this] at e3
      cases e3
    · rw [if_neg c0] at u1
      by_cases c1 : q.1 = 1
      · have : rcC q = [(kI (1 : Nat), q.2)] := by unfold rcC; rw [c1]; rfl
        rw [this] at e3
        cases e3
      · rw [if_neg c1] at u1
        by_cases c9 : q.1 = 9
        · rw [if_pos c9] at u1
          cases u1
        · rw [if_neg c9] at u1
          by_cases c2 : 2 ≤ q.1 ∧ q.1 ≤ 5
          · rw [if_pos c2] at u1
            cases u1
          · rw [if_neg c2] at u1
            by_cases c6 : 6 ≤ q.1 ∧ q.1 ≤ 8
            · rw [if_pos c6] at u1
              cases u1
            · rw [if_neg c6] at u1
              by_cases c10 : q.1 = 10 ∨ q.1 = 11
              · rw [if_pos c10] at u1
                cases u1
              · rw [if_neg c10] at u1
                cases u1
def q157 (l fa : Nat) (p1 p3 : Int32) (F : Nat → Int32) (o : List Cd) (L : List Ln) (x4 : Int32) (M : pMem) (v : Int32) (N : pMem) : Prop := ∀ i : Nat, x4.toInt = i → i ≤ L.length → clLaw M l o L → (∀ k, k < 14 → M fa k = F k) → v = (teL F o p1 (L.drop i)).getD p3 ∧ ∀ b, b ≠ l + 6 → N b = M b
theorem clLaw_eq {M N : pMem} {l : Nat} {o : List Cd} {L : List Ln} (h : clLaw M l o L) (e : ∀ b, l ≤ b → b ≤ l + 5 → N b = M b) : clLaw N l o L := by
  obtain ⟨h1, h2, h3, h4, h5⟩ := h
  refine ⟨by rw [e l (Nat.le_refl _) (by omega)]; exact h1, h2, h3, fun i x hi => by rw [e (l + 5) (by omega) (Nat.le_refl _)]; exact h4 i x hi, fun i x hi => ?_⟩
  rw [e (l + 1) (by omega) (by omega), e (l + 2) (by omega) (by omega), e (l + 3) (by omega) (by omega), e (l + 4) (by omega) (by omega)]
  exact h5 i x hi
/-- a slice of the class's steps -/
theorem cl_work {M : pMem} {l fa : Nat} (hfa : fa ≠ l + 6) {o : List Cd} {L : List Ln} (h : clLaw M l o L) {F : Nat → Int32} (hF : ∀ k, k < 14 → M fa k = F k) {a b : Nat} {t : Bool} (hab : a ≤ b) (hb : b ≤ o.length) (hty : ty (sl o a b) [] = some [t]) {p1 p2 : Int32} (h1 : p1.toInt = (stC (o.take a)).length) (h2 : p2.toInt = (stC (o.take b)).length) {v : Int32} {N : pMem} (hD : D_158 l p1 p2 fa M v N) : v = (ev F (sl o a b) []).headD 0 ∧ ∀ b, b ≠ l + 6 → N b = M b := by
  obtain ⟨e1, e2, _⟩ := evS_ev (F := F) (o := sl o a b) (s := []) (t := []) trivial (by decide) hty
  have es := stC_sl hab hb
  have ea := stC_all (o := o) (b := b)
  have hl : (stC (o.take b)).length = (stC (o.take a)).length + (stC (sl o a b)).length := by rw [es, List.length_append]
  have ha : (stC o).length = (stC (o.take b)).length + (stC (o.drop b)).length := by rw [← List.length_append, ← ea]
  obtain ⟨_, _, h3, h4, _⟩ := h
  have r := D_158_w hfa h1 (h2.trans (by rw [hl])) (by omega) (fun j x hj => h4 _ x (by
    have hj2 := (List.getElem?_eq_some_iff.mp hj).1
    rw [ea, es, List.append_assoc, List.getElem?_append_right (by omega), Nat.add_sub_cancel_left, List.getElem?_append_left hj2]
    exact hj)) hF e2 hD
  rw [e1] at r
  exact r
theorem S_157_1w {l fa : Nat} (hfa : fa ≠ l + 6) (hfl : fa < l ∨ l + 6 < fa) {p1 p3 : Int32} {F : Nat → Int32} {o : List Cd} {L : List Ln} (hw : wfLw o L) {P1 : Int32 → pMem → pT Int32} (hP : ∀ x4 M v N, P1 x4 M v N → q157 l fa p1 p3 F o L x4 M v N) {x4 : Int32} {M : pMem} {v : Int32} {N : pMem} (hs : S_157_1 l p1 fa p3 P1 x4 M v N) : q157 l fa p1 p3 F o L x4 M v N := by
  intro i hx hi hc hF
  obtain ⟨c1, c2, c3, c4, c5⟩ := id hc
  rcases hs with ⟨g, hv, hN⟩ | ⟨g, hs⟩
  · rw [i_le, c1, hx] at g
    rw [hN, drop_nil (by omega)]
    exact ⟨hv, fun _ _ => rfl⟩
  · rw [i_le, c1, hx] at g
    have hs := tIf_n (show ¬ kI 16 ≤ x4 by rw [i_le, hx, kI_toInt (by decide) (by decide)]; omega) hs
    obtain ⟨_, hs⟩ := hs
    have hi2 : i < L.length := by omega
    rw [ix_of hx] at hs
    have hx0 : L[i]? = some L[i] := List.getElem?_eq_getElem hi2
    obtain ⟨d1, d2, d3, d4, d5, d6, d7⟩ := c5 i L[i] hx0
    obtain ⟨w1, w2, w3, w4, w5⟩ := hw L[i] (List.getElem_mem hi2)
    rw [drop_at hi2]
    have nx : (x4 + kI 1).toInt = ((i + 1 : Nat) : Int) := by rw [i_add1 (by omega), hx]; omega
    have e8 := stC_sl w2 w3
    have l8 : (stC (o.take L[i].2.2.2)).length = (stC (o.take L[i].2.2.1)).length + (stC (sl o L[i].2.2.1 L[i].2.2.2)).length := by rw [e8, List.length_append]
    -- the next line
    have skip : ∀ {M1 : pMem}, P1 (x4 + kI 1) M1 v N → (∀ b, b ≠ l + 6 → M1 b = M b) → ¬ (L[i].1 = p1 ∧ (L[i].2.2.1 = L[i].2.2.2 ∨ ¬ (ev F (sl o L[i].2.2.1 L[i].2.2.2) []).headD 0 = 0)) → v = (teL F o p1 (L[i] :: L.drop (i + 1))).getD p3 ∧ ∀ b, b ≠ l + 6 → N b = M b := by
      intro M1 hs fr hn
      obtain ⟨a1, a2⟩ := hP _ _ _ _ hs (i + 1) nx (by omega) (clLaw_eq hc (fun b hb1 hb2 => fr b (by omega))) (fun k hk => by rw [fr fa hfa]; exact hF k hk)
      refine ⟨?_, fun b hb => by rw [a2 b hb, fr b hb]⟩
      rw [a1, teL_n hn]
    have take : ∀ {M1 : pMem} {v1 : Int32} {M2 : pMem}, (∀ b, b ≠ l + 6 → M1 b = M b) → D_158 l (M1 (l + 2) i) (M1 (l + 3) i) fa M1 v1 M2 → v = v1 → N = M2 → (L[i].1 = p1 ∧ (L[i].2.2.1 = L[i].2.2.2 ∨ ¬ (ev F (sl o L[i].2.2.1 L[i].2.2.2) []).headD 0 = 0)) → v = (teL F o p1 (L[i] :: L.drop (i + 1))).getD p3 ∧ ∀ b, b ≠ l + 6 → N b = M b := by
      intro M1 v1 M2 fr hD hv hN hy
      rw [fr (l + 2) (by omega), fr (l + 3) (by omega)] at hD
      obtain ⟨a1, a2⟩ := cl_work (F := F) hfa (clLaw_eq hc (fun b hb1 hb2 => fr b (by omega))) (fun k hk => by rw [fr fa hfa]; exact hF k hk) w1 (by omega) w4 d2 d3 hD
      rw [hv, hN]
      refine ⟨?_, fun b hb => by rw [a2 b hb, fr b hb]⟩
      rw [a1, teL_y hy]
      rfl
    rcases hs with ⟨g2, hs⟩ | ⟨g2, _, _, hs⟩
    · exact skip hs (fun _ _ => rfl) (fun q => g2 (d1.trans q.1))
    · have hw1 : L[i].1 = p1 := by rw [← d1]; exact Classical.not_not.mp g2
      rcases hs with ⟨g3, _, _, v1, M1, hD, hv, hN⟩ | ⟨g3, _, _, v1, M1, hD, hs⟩
      · refine take (fun _ _ => rfl) hD hv hN ⟨hw1, Or.inl ?_⟩
        rcases w5 with e | e
        · exact e
        · have q := stC_ne e
          rw [i_eq, d3, d4, l8] at g3
          exact absurd (List.eq_nil_of_length_eq_zero (by omega)) q
      · have ne : ¬ L[i].2.2.1 = L[i].2.2.2 := fun e => g3 (by rw [i_eq, d3, d4, e])
        have t5 := w5.resolve_left ne
        obtain ⟨a1, a2⟩ := cl_work hfa hc hF w2 w3 t5 d3 d4 hD
        rcases hs with ⟨g4, hs⟩ | ⟨g4, _, _, v2, M2, hD2, hv, hN⟩
        · refine skip hs a2 (fun q => q.2.elim ne (fun q => q ?_))
          rw [← a1]
          exact g4
        · refine take a2 hD2 hv hN ⟨hw1, Or.inr ?_⟩
          rw [← a1]
          exact g4
theorem D_157_w {l fa : Nat} (hfl : fa < l ∨ l + 6 < fa) {p1 p3 : Int32} {F : Nat → Int32} {o : List Cd} {L : List Ln} (hw : wfLw o L) {M : pMem} (hc : clLaw M l o L) (hF : ∀ k, k < 14 → M fa k = F k) {v : Int32} {N : pMem} (h : D_157 l p1 fa p3 M v N) : v = (teL F o p1 L).getD p3 ∧ ∀ b, b ≠ l + 6 → N b = M b := by
  have q : q157 l fa p1 p3 F o L (kI 0) M v N := h (q157 l fa p1 p3 F o L) (fun _ _ _ _ hs => S_157_1w (by omega) hfl hw (fun _ _ _ _ h => h) hs)
  exact q 0 rfl (Nat.zero_le _) hc hF
