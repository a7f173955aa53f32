/-! what codes come to: a stack of numbers, and of which of them are yes or no -/
def ev1 (F : Nat → Int32) (q : Cd) (s : List Int32) : List Int32 :=
  if q.1 = 0 then q.2 :: s else if q.1 = 1 then F (ix q.2) :: s
  else if q.1 = 9 then (match s with | y :: r => (if q.2.toInt % 2 = 1 then kI 1 - y else y) :: r | [] => [])
  else match s with | y :: x :: r => f_83 (kI (q.1 : Nat)) x y :: r | _ => s
def ev (F : Nat → Int32) : List Cd → List Int32 → List Int32
  | [], s => s
  | q :: r, s => ev F r (ev1 F q s)
def ty1 (q : Cd) (s : List Bool) : Option (List Bool) :=
  if q.1 = 0 then (if 0 ≤ q.2.toInt ∧ q.2.toInt < 10000 then some (false :: s) else none)
  else if q.1 = 1 then (if 0 ≤ q.2.toInt ∧ q.2.toInt ≤ 13 then some (false :: s) else none)
  else if q.1 = 9 then (match s with | true :: r => (if 0 ≤ q.2.toInt then some (true :: r) else none) | _ => none)
  else if 2 ≤ q.1 ∧ q.1 ≤ 5 then (match s with | false :: false :: r => some (false :: r) | _ => none)
  else if 6 ≤ q.1 ∧ q.1 ≤ 8 then (match s with | false :: false :: r => some (true :: r) | _ => none)
  else if q.1 = 10 ∨ q.1 = 11 then (match s with | true :: true :: r => some (true :: r) | _ => none)
  else none
def ty : List Cd → List Bool → Option (List Bool)
  | [], s => some s
  | q :: r, s => match ty1 q s with
    | some t => if t.length ≤ 30 then ty r t else none
    | none => none
theorem ty_cons {q : Cd} {r : List Cd} {s t : List Bool} (h : ty (q :: r) s = some t) : ∃ u, ty1 q s = some u ∧ u.length ≤ 30 ∧ ty r u = some t := by
  unfold ty at h
  cases e : ty1 q s with
  | none =>
    rw [e] at h
    cases h
  | some u =>
    rw [e] at h
    dsimp only at h
    by_cases c : u.length ≤ 30
    · rw [if_pos c] at h
      exact ⟨u, rfl, c, h⟩
    · rw [if_neg c] at h
      cases h
theorem ty_step {q : Cd} {r : List Cd} {s u : List Bool} {t : Option (List Bool)} (h : ty1 q s = some u) (c : u.length ≤ 30) (h2 : ty r u = t) : ty (q :: r) s = t := by
  unfold ty
  rw [h]
  dsimp only
  rw [if_pos c]
  exact h2
theorem ty_app {a b : List Cd} {s t : List Bool} : (∃ u, ty a s = some u ∧ ty b u = some t) → ty (a ++ b) s = some t := by
  induction a generalizing s with
  | nil =>
    rintro ⟨u, h1, h2⟩
    have h1 : some s = some u := h1
    injection h1 with h1
    rw [← h1] at h2
    exact h2
  | cons q r ih =>
    rintro ⟨u, h1, h2⟩
    obtain ⟨w, a1, a2, a3⟩ := ty_cons h1
    exact ty_step (r := r ++ b) a1 a2 (ih ⟨u, a3, h2⟩)
theorem ev_app {F : Nat → Int32} {a b : List Cd} {s : List Int32} : ev F (a ++ b) s = ev F b (ev F a s) := by
  induction a generalizing s with
  | nil => rfl
  | cons q r ih => exact ih
/-- the numbers are of those kinds -/
def tv : List Int32 → List Bool → Prop
  | [], [] => True
  | x :: r, b :: t => (b = true → bo x) ∧ tv r t
  | _, _ => False
theorem tv_len : ∀ {s : List Int32} {t : List Bool}, tv s t → s.length = t.length
  | [], [], _ => rfl
  | _ :: r, _ :: t, h => by
    rw [List.length_cons, List.length_cons, tv_len h.2]
  | [], _ :: _, h => h.elim
  | _ :: _, [], h => h.elim
theorem tv_cons {s : List Int32} {b : Bool} {t : List Bool} (h : tv s (b :: t)) : ∃ x r, s = x :: r ∧ (b = true → bo x) ∧ tv r t := by
  cases s with
  | nil => exact h.elim
  | cons x r => exact ⟨x, r, rfl, h.1, h.2⟩
theorem bo_if {c : Prop} [Decidable c] : bo (if c then kI 0 else kI 1) := by
  by_cases h : c
  · rw [if_pos h]; exact Or.inl rfl
  · rw [if_neg h]; exact Or.inr rfl
theorem f83_cmp {n : Nat} {x y : Int32} (h : 6 ≤ n ∧ n ≤ 8) : bo (f_83 (kI n) x y) := by
  have e : n = 6 ∨ n = 7 ∨ n = 8 := by omega
  rcases e with rfl | rfl | rfl
  · show bo (if y ≤ x then kI 0 else kI 1)
    exact bo_if
  · show bo (if ¬ x = y then kI 0 else kI 1)
    exact bo_if
  · show bo (if x ≤ y then kI 0 else kI 1)
    exact bo_if
theorem f83_bo {n : Nat} {x y : Int32} (h : n = 10 ∨ n = 11) (hx : bo x) (hy : bo y) : bo (f_83 (kI n) x y) := by
  rcases h with rfl | rfl
  · show bo (x * y)
    rcases hx with rfl | rfl <;> rcases hy with rfl | rfl
    · exact Or.inl (by decide)
    · exact Or.inl (by decide)
    · exact Or.inl (by decide)
    · exact Or.inr (by decide)
  · show bo (if (x + y) ≤ 0 then kI 0 else kI 1)
    exact bo_if
theorem ev1_tv {F : Nat → Int32} {q : Cd} {s : List Int32} {t u : List Bool} (h : tv s t) (hq : ty1 q t = some u) : tv (ev1 F q s) u := by
  unfold ty1 at hq
  unfold ev1
  by_cases c0 : q.1 = 0
  · rw [if_pos c0] at hq ⊢
    by_cases d : 0 ≤ q.2.toInt ∧ q.2.toInt < 10000
    · rw [if_pos d] at hq
      injection hq with hq
      rw [← hq]
      exact ⟨fun e => (by cases e), h⟩
    · rw [if_neg d] at hq
      cases hq
  · rw [if_neg c0] at hq ⊢
    by_cases c1 : q.1 = 1
    · rw [if_pos c1] at hq ⊢
      by_cases d : 0 ≤ q.2.toInt ∧ q.2.toInt ≤ 13
      · rw [if_pos d] at hq
        injection hq with hq
        rw [← hq]
        exact ⟨fun e => (by cases e), h⟩
      · rw [if_neg d] at hq
        cases hq
    · rw [if_neg c1] at hq ⊢
      by_cases c9 : q.1 = 9
      · rw [if_pos c9] at hq ⊢
        match t, h, hq with
        | true :: r, h, hq =>
          obtain ⟨x, s', rfl, h1, h2⟩ := tv_cons h
          dsimp only at hq
          by_cases d : 0 ≤ q.2.toInt
          · rw [if_pos d] at hq
            injection hq with hq
            rw [← hq]
            refine ⟨fun _ => ?_, h2⟩
            by_cases o : q.2.toInt % 2 = 1
            · rw [if_pos o]
              rcases h1 rfl with rfl | rfl
              · exact Or.inr (by decide)
              · exact Or.inl (by decide)
            · rw [if_neg o]
              exact h1 rfl
          · rw [if_neg d] at hq
            cases hq
      · rw [if_neg c9] at hq ⊢
        by_cases c2 : 2 ≤ q.1 ∧ q.1 ≤ 5
        · rw [if_pos c2] at hq
          match t, h, hq with
          | false :: false :: r, h, hq =>
            obtain ⟨y, s', rfl, h1, h2⟩ := tv_cons h
            obtain ⟨x, s2, rfl, h3, h4⟩ := tv_cons h2
            injection hq with hq
            rw [← hq]
            exact ⟨fun e => (by cases e), h4⟩
        · rw [if_neg c2] at hq
          by_cases c6 : 6 ≤ q.1 ∧ q.1 ≤ 8
          · rw [if_pos c6] at hq
            match t, h, hq with
            | false :: false :: r, h, hq =>
              obtain ⟨y, s', rfl, h1, h2⟩ := tv_cons h
              obtain ⟨x, s2, rfl, h3, h4⟩ := tv_cons h2
              injection hq with hq
              rw [← hq]
              exact ⟨fun _ => f83_cmp c6, h4⟩
          · rw [if_neg c6] at hq
            by_cases c10 : q.1 = 10 ∨ q.1 = 11
            · rw [if_pos c10] at hq
              match t, h, hq with
              | true :: true :: r, h, hq =>
                obtain ⟨y, s', rfl, h1, h2⟩ := tv_cons h
                obtain ⟨x, s2, rfl, h3, h4⟩ := tv_cons h2
                injection hq with hq
                rw [← hq]
                exact ⟨fun _ => f83_bo c10 (h3 rfl) (h1 rfl), h4⟩
            · rw [if_neg c10] at hq
              cases hq
/-! the class's steps -/
def evS1 (F : Nat → Int32) (x : Int32) (s : List Int32) : List Int32 :=
  if 0 ≤ x.toInt then (if x.toInt < 10000 then x :: s else F (ix (x - kI 10000)) :: s)
  else if x = kI (-23) then (match s with | y :: r => (kI 1 - y) :: r | [] => [])
  else match s with | y :: z :: r => f_159 (-x) z y :: r | _ => s
def evS (F : Nat → Int32) : List Int32 → List Int32 → List Int32
  | [], s => s
  | x :: r, s => evS F r (evS1 F x s)
def hS (F : Nat → Int32) : List Int32 → List Int32 → Prop
  | [], _ => True
  | x :: r, s => (0 ≤ x.toInt → s.length < 32 ∧ x.toInt < 10014) ∧ hS F r (evS1 F x s)
theorem evS_app {F : Nat → Int32} {a b s : List Int32} : evS F (a ++ b) s = evS F b (evS F a s) := by
  induction a generalizing s with
  | nil => rfl
  | cons x r ih => exact ih
/-- what each sign does, on both sides -/
theorem f159_2 {x y : Int32} : f_159 (-(stpC (2, kI 0)).headD 0) x y = (x + y) := by
  rw [show -(stpC (2, kI 0)).headD 0 = kI 43 by decide]
  unfold f_159
  rw [if_neg (show ¬ kI 43 = kI 21 by decide), if_neg (show ¬ kI 43 = kI 22 by decide), if_neg (show ¬ kI 43 = kI 42 by decide), if_pos rfl]
theorem f83_2 {x y : Int32} : f_83 (kI (2 : Nat)) x y = (x + y) := by
  show f_83 (kI 2) x y = _
  unfold f_83
  rw [if_neg (nn (show kI 2 = kI 2 from rfl))]
theorem f159_3 {x y : Int32} : f_159 (-(stpC (3, kI 0)).headD 0) x y = (x - y) := by
  rw [show -(stpC (3, kI 0)).headD 0 = kI 45 by decide]
  unfold f_159
  rw [if_neg (show ¬ kI 45 = kI 21 by decide), if_neg (show ¬ kI 45 = kI 22 by decide), if_neg (show ¬ kI 45 = kI 42 by decide), if_neg (show ¬ kI 45 = kI 43 by decide), if_pos rfl]
theorem f83_3 {x y : Int32} : f_83 (kI (3 : Nat)) x y = (x - y) := by
  show f_83 (kI 3) x y = _
  unfold f_83
  rw [if_pos (show ¬ kI 3 = kI 2 by decide), if_neg (nn (show kI 3 = kI 3 from rfl))]
theorem f159_4 {x y : Int32} : f_159 (-(stpC (4, kI 0)).headD 0) x y = (x * y) := by
  rw [show -(stpC (4, kI 0)).headD 0 = kI 42 by decide]
  unfold f_159
  rw [if_neg (show ¬ kI 42 = kI 21 by decide), if_neg (show ¬ kI 42 = kI 22 by decide), if_pos rfl]
theorem f83_4 {x y : Int32} : f_83 (kI (4 : Nat)) x y = (x * y) := by
  show f_83 (kI 4) x y = _
  unfold f_83
  rw [if_pos (show ¬ kI 4 = kI 2 by decide), if_pos (show ¬ kI 4 = kI 3 by decide), if_neg (nn (show kI 4 = kI 4 from rfl))]
theorem f159_5 {x y : Int32} : f_159 (-(stpC (5, kI 0)).headD 0) x y = (if ¬ y = 0 then (x / y) else (kI 0)) := by
  rw [show -(stpC (5, kI 0)).headD 0 = kI 47 by decide]
  unfold f_159
  rw [if_neg (show ¬ kI 47 = kI 21 by decide), if_neg (show ¬ kI 47 = kI 22 by decide), if_neg (show ¬ kI 47 = kI 42 by decide), if_neg (show ¬ kI 47 = kI 43 by decide), if_neg (show ¬ kI 47 = kI 45 by decide), if_pos rfl]
theorem f83_5 {x y : Int32} : f_83 (kI (5 : Nat)) x y = (x / y) := by
  show f_83 (kI 5) x y = _
  unfold f_83
  rw [if_pos (show ¬ kI 5 = kI 2 by decide), if_pos (show ¬ kI 5 = kI 3 by decide), if_pos (show ¬ kI 5 = kI 4 by decide), if_neg (nn (show kI 5 = kI 5 from rfl))]
theorem f159_6 {x y : Int32} : f_159 (-(stpC (6, kI 0)).headD 0) x y = (if y ≤ x then (kI 0) else (kI 1)) := by
  rw [show -(stpC (6, kI 0)).headD 0 = kI 60 by decide]
  unfold f_159
  rw [if_neg (show ¬ kI 60 = kI 21 by decide), if_neg (show ¬ kI 60 = kI 22 by decide), if_neg (show ¬ kI 60 = kI 42 by decide), if_neg (show ¬ kI 60 = kI 43 by decide), if_neg (show ¬ kI 60 = kI 45 by decide), if_neg (show ¬ kI 60 = kI 47 by decide), if_pos rfl]
theorem f83_6 {x y : Int32} : f_83 (kI (6 : Nat)) x y = (if y ≤ x then (kI 0) else (kI 1)) := by
  show f_83 (kI 6) x y = _
  unfold f_83
  rw [if_pos (show ¬ kI 6 = kI 2 by decide), if_pos (show ¬ kI 6 = kI 3 by decide), if_pos (show ¬ kI 6 = kI 4 by decide), if_pos (show ¬ kI 6 = kI 5 by decide), if_neg (nn (show kI 6 = kI 6 from rfl))]
theorem f159_7 {x y : Int32} : f_159 (-(stpC (7, kI 0)).headD 0) x y = (if ¬ x = y then (kI 0) else (kI 1)) := by
  rw [show -(stpC (7, kI 0)).headD 0 = kI 61 by decide]
  unfold f_159
  rw [if_neg (show ¬ kI 61 = kI 21 by decide), if_neg (show ¬ kI 61 = kI 22 by decide), if_neg (show ¬ kI 61 = kI 42 by decide), if_neg (show ¬ kI 61 = kI 43 by decide), if_neg (show ¬ kI 61 = kI 45 by decide), if_neg (show ¬ kI 61 = kI 47 by decide), if_neg (show ¬ kI 61 = kI 60 by decide), if_pos rfl]
theorem f83_7 {x y : Int32} : f_83 (kI (7 : Nat)) x y = (if ¬ x = y then (kI 0) else (kI 1)) := by
  show f_83 (kI 7) x y = _
  unfold f_83
  rw [if_pos (show ¬ kI 7 = kI 2 by decide), if_pos (show ¬ kI 7 = kI 3 by decide), if_pos (show ¬ kI 7 = kI 4 by decide), if_pos (show ¬ kI 7 = kI 5 by decide), if_pos (show ¬ kI 7 = kI 6 by decide), if_neg (nn (show kI 7 = kI 7 from rfl))]
theorem f159_8 {x y : Int32} : f_159 (-(stpC (8, kI 0)).headD 0) x y = (if x ≤ y then (kI 0) else (kI 1)) := by
  rw [show -(stpC (8, kI 0)).headD 0 = kI 62 by decide]
  unfold f_159
  rw [if_neg (show ¬ kI 62 = kI 21 by decide), if_neg (show ¬ kI 62 = kI 22 by decide), if_neg (show ¬ kI 62 = kI 42 by decide), if_neg (show ¬ kI 62 = kI 43 by decide), if_neg (show ¬ kI 62 = kI 45 by decide), if_neg (show ¬ kI 62 = kI 47 by decide), if_neg (show ¬ kI 62 = kI 60 by decide), if_neg (show ¬ kI 62 = kI 61 by decide), if_pos rfl]
theorem f83_8 {x y : Int32} : f_83 (kI (8 : Nat)) x y = (if x ≤ y then (kI 0) else (kI 1)) := by
  show f_83 (kI 8) x y = _
  unfold f_83
  rw [if_pos (show ¬ kI 8 = kI 2 by decide), if_pos (show ¬ kI 8 = kI 3 by decide), if_pos (show ¬ kI 8 = kI 4 by decide), if_pos (show ¬ kI 8 = kI 5 by decide), if_pos (show ¬ kI 8 = kI 6 by decide), if_pos (show ¬ kI 8 = kI 7 by decide), if_neg (nn (show kI 8 = kI 8 from rfl))]
theorem f159_10 {x y : Int32} : f_159 (-(stpC (10, kI 0)).headD 0) x y = (x &&& y) := by
  rw [show -(stpC (10, kI 0)).headD 0 = kI 22 by decide]
  unfold f_159
  rw [if_neg (show ¬ kI 22 = kI 21 by decide), if_pos rfl]
theorem f83_10 {x y : Int32} : f_83 (kI (10 : Nat)) x y = (x * y) := by
  show f_83 (kI 10) x y = _
  unfold f_83
  rw [if_pos (show ¬ kI 10 = kI 2 by decide), if_pos (show ¬ kI 10 = kI 3 by decide), if_pos (show ¬ kI 10 = kI 4 by decide), if_pos (show ¬ kI 10 = kI 5 by decide), if_pos (show ¬ kI 10 = kI 6 by decide), if_pos (show ¬ kI 10 = kI 7 by decide), if_pos (show ¬ kI 10 = kI 8 by decide), if_neg (nn (show kI 10 = kI 10 from rfl))]
theorem f159_11 {x y : Int32} : f_159 (-(stpC (11, kI 0)).headD 0) x y = (x ||| y) := by
  rw [show -(stpC (11, kI 0)).headD 0 = kI 21 by decide]
  unfold f_159
  rw [if_pos rfl]
theorem f83_11 {x y : Int32} : f_83 (kI (11 : Nat)) x y = (if (x + y) ≤ 0 then (kI 0) else (kI 1)) := by
  show f_83 (kI 11) x y = _
  unfold f_83
  rw [if_pos (show ¬ kI 11 = kI 2 by decide), if_pos (show ¬ kI 11 = kI 3 by decide), if_pos (show ¬ kI 11 = kI 4 by decide), if_pos (show ¬ kI 11 = kI 5 by decide), if_pos (show ¬ kI 11 = kI 6 by decide), if_pos (show ¬ kI 11 = kI 7 by decide), if_pos (show ¬ kI 11 = kI 8 by decide), if_pos (show ¬ kI 11 = kI 10 by decide)]
theorem f159_eq {n : Nat} {x y : Int32} (h : 2 ≤ n ∧ n ≤ 8) : f_159 (-(stpC (n, kI 0)).headD 0) x y = f_83 (kI n) x y := by
  have e : n = 2 ∨ n = 3 ∨ n = 4 ∨ n = 5 ∨ n = 6 ∨ n = 7 ∨ n = 8 := by omega
  rcases e with rfl | rfl | rfl | rfl | rfl | rfl | rfl
  · rw [f159_2, f83_2]
  · rw [f159_3, f83_3]
  · rw [f159_4, f83_4]
  · rw [f159_5, f83_5]
    by_cases c : y = 0
    · rw [if_neg (nn c), c, i_eq, Int32.toInt_div, i_0, Int.tdiv_zero]
      rfl
    · rw [if_pos c]
  · rw [f159_6, f83_6]
  · rw [f159_7, f83_7]
  · rw [f159_8, f83_8]
theorem f159_bo {n : Nat} {x y : Int32} (h : n = 10 ∨ n = 11) (hx : bo x) (hy : bo y) : f_159 (-(stpC (n, kI 0)).headD 0) x y = f_83 (kI n) x y := by
  rcases h with rfl | rfl
  · rw [f159_10, f83_10]
    rcases hx with rfl | rfl <;> rcases hy with rfl | rfl <;> decide
  · rw [f159_11, f83_11]
    rcases hx with rfl | rfl <;> rcases hy with rfl | rfl <;> decide
theorem stp_bin {n : Nat} {a : Int32} (h : (2 ≤ n ∧ n ≤ 8) ∨ n = 10 ∨ n = 11) : ∃ x, stpC (n, a) = [x] ∧ x = (stpC (n, kI 0)).headD 0 ∧ x.toInt < 0 ∧ ¬ x = kI (-23) := by
  have e : n = 2 ∨ n = 3 ∨ n = 4 ∨ n = 5 ∨ n = 6 ∨ n = 7 ∨ n = 8 ∨ n = 10 ∨ n = 11 := by omega
  rcases e with rfl | rfl | rfl | rfl | rfl | rfl | rfl | rfl | rfl
  all_goals exact ⟨_, rfl, rfl, by decide, by decide⟩
/-- one code, as its steps -/
theorem evS_one {F : Nat → Int32} {q : Cd} {s : List Int32} {t u : List Bool} (h : tv s t) (h30 : t.length ≤ 30) (hq : ty1 q t = some u) : evS F (stpC q) s = ev1 F q s ∧ hS F (stpC q) s := by
  obtain ⟨m, a⟩ := q
  have hl := tv_len h
  unfold ty1 at hq
  unfold ev1
  dsimp only at hq ⊢
  by_cases c0 : m = 0
  · subst c0
    rw [if_pos rfl] at hq ⊢
    by_cases d : 0 ≤ a.toInt ∧ a.toInt < 10000
    · refine ⟨?_, fun _ => ⟨by omega, by show a.toInt < 10014; omega⟩, trivial⟩
      show evS1 F a s = a :: s
      unfold evS1
      rw [if_pos d.1, if_pos d.2]
    · rw [if_neg d] at hq
      cases hq
  · rw [if_neg c0] at hq ⊢
    by_cases c1 : m = 1
    · subst c1
      rw [if_pos rfl] at hq ⊢
      by_cases d : 0 ≤ a.toInt ∧ a.toInt ≤ 13
      · have e : (kI 10000 + a).toInt = 10000 + a.toInt := by rw [i_add (by rw [kI_toInt (by decide) (by decide)]; omega) (by rw [kI_toInt (by decide) (by decide)]; omega), kI_toInt (by decide) (by decide)]
        have e2 : kI 10000 + a - kI 10000 = a := by rw [i_eq, i_sub (by rw [e, kI_toInt (by decide) (by decide)]; omega) (by rw [e, kI_toInt (by decide) (by decide)]; omega), e, kI_toInt (by decide) (by decide)]; omega
        refine ⟨?_, fun _ => ⟨by omega, by show (kI 10000 + a).toInt < 10014; omega⟩, trivial⟩
        show evS1 F (kI 10000 + a) s = F (ix a) :: s
        unfold evS1
        rw [if_pos (by omega), if_neg (by omega), e2]
      · rw [if_neg d] at hq
        cases hq
    · rw [if_neg c1] at hq ⊢
      by_cases c9 : m = 9
      · subst c9
        rw [if_pos rfl] at hq ⊢
        have es : stpC (9, a) = if a.toInt % 2 = 1 then [kI (-23)] else [] := rfl
        rw [es]
        match t, h, hq with
        | true :: r, h, hq =>
          obtain ⟨x, s', rfl, h1, h2⟩ := tv_cons h
          by_cases o : a.toInt % 2 = 1
          · rw [if_pos o]
            refine ⟨?_, fun e => absurd e (by decide), trivial⟩
            show evS1 F (kI (-23)) (x :: s') = (if a.toInt % 2 = 1 then kI 1 - x else x) :: s'
            rw [if_pos o]
            rfl
          · rw [if_neg o]
            refine ⟨?_, trivial⟩
            show x :: s' = (if a.toInt % 2 = 1 then kI 1 - x else x) :: s'
            rw [if_neg o]
      · rw [if_neg c9] at hq ⊢
        have bin : ∀ {y x : Int32} {r : List Int32}, s = y :: x :: r → ((2 ≤ m ∧ m ≤ 8) ∨ m = 10 ∨ m = 11) → f_159 (-(stpC (m, kI 0)).headD 0) x y = f_83 (kI m) x y → evS F (stpC (m, a)) s = f_83 (kI m) x y :: r ∧ hS F (stpC (m, a)) s := by
          intro y x r es hm he
          obtain ⟨z, z1, z2, z3, z4⟩ := stp_bin (a := a) hm
          rw [z1]
          refine ⟨?_, fun e => absurd e (by omega), trivial⟩
          show evS1 F z s = _
          unfold evS1
          rw [if_neg (by omega), if_neg z4, es]
          show f_159 (-z) x y :: r = _
          rw [z2, he]
        by_cases c2 : 2 ≤ m ∧ m ≤ 5
        · rw [if_pos c2] at hq
          match t, h, hq with
          | false :: false :: r, h, hq =>
            obtain ⟨y, s', rfl, h1, h2⟩ := tv_cons h
            obtain ⟨x, s2, rfl, h3, h4⟩ := tv_cons h2
            exact bin rfl (by omega) (f159_eq (by omega))
        · rw [if_neg c2] at hq
          by_cases c6 : 6 ≤ m ∧ m ≤ 8
          · rw [if_pos c6] at hq
            match t, h, hq with
            | false :: false :: r, h, hq =>
              obtain ⟨y, s', rfl, h1, h2⟩ := tv_cons h
              obtain ⟨x, s2, rfl, h3, h4⟩ := tv_cons h2
              exact bin rfl (by omega) (f159_eq (by omega))
          · rw [if_neg c6] at hq
            by_cases c10 : m = 10 ∨ m = 11
            · rw [if_pos c10] at hq
              match t, h, hq with
              | true :: true :: r, h, hq =>
                obtain ⟨y, s', rfl, h1, h2⟩ := tv_cons h
                obtain ⟨x, s2, rfl, h3, h4⟩ := tv_cons h2
                exact bin rfl (Or.inr c10) (f159_bo c10 (h3 rfl) (h1 rfl))
            · rw [if_neg c10] at hq
              cases hq
theorem hS_app {F : Nat → Int32} {a b s : List Int32} (h1 : hS F a s) (h2 : hS F b (evS F a s)) : hS F (a ++ b) s := by
  induction a generalizing s with
  | nil => exact h2
  | cons x r ih => exact ⟨h1.1, ih h1.2 h2⟩
theorem evS_ev {F : Nat → Int32} : ∀ {o : List Cd} {s : List Int32} {t u : List Bool}, tv s t → t.length ≤ 30 → ty o t = some u → evS F (stC o) s = ev F o s ∧ hS F (stC o) s ∧ tv (ev F o s) u
  | [], s, t, u, h, h30, hq => by
    have hq : some t = some u := hq
    injection hq with hq
    rw [← hq]
    exact ⟨rfl, trivial, h⟩
  | q :: r, s, t, u, h, h30, hq => by
    obtain ⟨w, a1, a2, a3⟩ := ty_cons hq
    obtain ⟨b1, b2⟩ := evS_one (F := F) h h30 a1
    obtain ⟨c1, c2, c3⟩ := evS_ev (F := F) (o := r) (ev1_tv (F := F) h a1) a2 a3
    have e : stC (q :: r) = stpC q ++ stC r := rfl
    rw [e, evS_app, b1]
    exact ⟨c1, hS_app b2 (by rw [b1]; exact c2), c3⟩
/-! the class works it out -/
def stk (M : pMem) (a : Nat) (s : List Int32) : Prop := ∀ i x, s.reverse[i]? = some x → M a i = x
theorem stk_eq {M N : pMem} {a : Nat} {s : List Int32} (h : stk M a s) (e : ∀ i, i < s.length → N a i = M a i) : stk N a s := fun i x hi => by
  have hl := (List.getElem?_eq_some_iff.mp hi).1
  rw [List.length_reverse] at hl
  rw [e i hl]
  exact h i x hi
theorem stk_push {M N : pMem} {a : Nat} {s : List Int32} {x : Int32} (h : stk M a s) (e : N = aPut M a s.length x) : stk N a (x :: s) := fun i y hi => by
  rw [List.reverse_cons] at hi
  rw [e, aPut_row]
  by_cases c : i = s.length
  · rw [if_pos c]
    rw [c, List.getElem?_append_right (by rw [List.length_reverse]; exact Nat.le_refl _), List.length_reverse, Nat.sub_self] at hi
    exact (Option.some.inj hi)
  · rw [if_neg c]
    have hl := (List.getElem?_eq_some_iff.mp hi).1
    rw [List.length_append, List.length_reverse, List.length_singleton] at hl
    rw [List.getElem?_append_left (by rw [List.length_reverse]; omega)] at hi
    exact h i y hi
theorem stk_pop {M : pMem} {a : Nat} {s : List Int32} {x : Int32} (h : stk M a (x :: s)) : stk M a s ∧ M a s.length = x := by
  refine ⟨fun i y hi => ?_, ?_⟩
  · refine h i y ?_
    have hl := (List.getElem?_eq_some_iff.mp hi).1
    rw [List.reverse_cons, List.getElem?_append_left hl]
    exact hi
  · refine h s.length x ?_
    rw [List.reverse_cons, List.getElem?_append_right (by rw [List.length_reverse]; exact Nat.le_refl _), List.length_reverse, Nat.sub_self]
    rfl
theorem stk_put {M N : pMem} {a : Nat} {s : List Int32} {x y : Int32} (h : stk M a (x :: s)) (e : N = aPut M a s.length y) : stk N a (y :: s) := stk_push (stk_pop h).1 e
