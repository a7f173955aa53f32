/-! what is read is of those kinds -/
theorem xWd_100 {B : Nat → Int32} {p e : Nat} : ¬ xWd B p e = kI 100 := by
  unfold xWd
  split
  · rename_i j hj
    have := List.mem_range.mp (List.mem_of_find?_eq_some hj)
    rw [yk (by decide) (by decide), kI_toInt (by omega) (by omega)]
    omega
  · decide
theorem yV_rg {B : Nat → Int32} {n k : Nat} (h : yT B n k = kI 100) : 0 ≤ (yV B n k).toInt ∧ (yV B n k).toInt < 10000 := by
  unfold yT at h
  unfold yV
  by_cases c : xSt B n k < n
  · rw [if_pos c] at h ⊢
    generalize xSt B n k = p at *
    unfold xTk at h
    unfold xVl
    by_cases c1 : xLt (B p) = true
    · rw [if_pos c1] at h
      exact absurd h xWd_100
    · rw [if_neg c1] at h ⊢
      by_cases c2 : xDg (B p) = true
      · rw [if_pos c2] at h ⊢
        by_cases c3 : xEnd xDg B n (p + 1) - p ≤ 4
        · have q := xV_rg (B := B) (p := p) (k := xEnd xDg B n (p + 1) - p) (fun i hi => by
            by_cases e : i = 0
            · rw [e]; exact c2
            · exact xEnd_in (f := xDg) (B := B) (n := n) (p := p + 1) rfl (p + i) (by omega) (by omega)) c3
          refine ⟨q.1, ?_⟩
          have m : (10 : Int) ^ (xEnd xDg B n (p + 1) - p) ≤ 10 ^ 4 := by
            generalize xEnd xDg B n (p + 1) - p = z at c3
            have e : z = 0 ∨ z = 1 ∨ z = 2 ∨ z = 3 ∨ z = 4 := by omega
            rcases e with rfl | rfl | rfl | rfl | rfl <;> decide
          have := q.2
          have e4 : (10 : Int) ^ 4 = 10000 := by decide
          omega
        · rw [if_neg c3] at h
          exact absurd h (by decide)
      · rw [if_neg c2] at h
        by_cases c4 : f_63 (B p) = 0
        · rw [if_pos c4] at h
          exact absurd h (by decide)
        · rw [if_neg c4] at h
          have := f63_rg c4
          rw [h, kI_toInt (by decide) (by decide)] at this
          omega
  · rw [if_neg c] at h
    exact absurd h (by decide)
section TY
variable {T V : Nat → Int32}
theorem unG_ty (hV : ∀ k, T k = kI 100 → 0 ≤ (V k).toInt ∧ (V k).toInt < 10000) {d : Prop} [Decidable d] {k : Nat} {o : List Cd} (h : (unG T V d k o).1 = 0) : ∃ q, (unG T V d k o).2.2 = o ++ [q] ∧ ∀ s, ty1 q s = some (false :: s) := by
  unfold unG at h ⊢
  by_cases a : T k = kI 100
  · rw [if_pos a] at h ⊢
    by_cases b : d ∧ V k = kI 0
    · rw [if_pos b] at h
      exact absurd h (by decide : ¬ (2 : Nat) = 0)
    · rw [if_neg b]
      refine ⟨_, rfl, fun s => ?_⟩
      unfold ty1
      rw [if_pos rfl, if_pos (hV k a)]
  · rw [if_neg a] at h ⊢
    by_cases b : 0 ≤ (T k).toInt ∧ (T k).toInt ≤ 13 ∧ ¬ d
    · rw [if_pos b]
      refine ⟨_, rfl, fun s => ?_⟩
      unfold ty1
      rw [if_neg (show ¬ (1 : Nat) = 0 by decide), if_pos rfl, if_pos ⟨b.1, b.2.1⟩]
    · rw [if_neg b] at h
      exact absurd h (by decide : ¬ (1 : Nat) = 0)
theorem ty_bin {m : Nat} {s : List Bool} (h : 2 ≤ m ∧ m ≤ 5) (hs : s.length ≤ 29) {r : List Cd} {t : Option (List Bool)} (hr : ty r (false :: s) = t) : ty ((m, kI 0) :: r) (false :: false :: s) = t := by
  refine ty_step (u := false :: s) ?_ (by rw [List.length_cons]; omega) hr
  unfold ty1
  dsimp only
  rw [if_neg (by omega), if_neg (by omega), if_neg (by omega), if_pos h]
theorem ty_mC {c : Int32} (h : c = kI 42 ∨ c = kI 47) {s : List Bool} (hs : s.length ≤ 29) {r : List Cd} {t : Option (List Bool)} (hr : ty r (false :: s) = t) : ty (mC c ++ r) (false :: false :: s) = t := by
  rcases h with rfl | rfl
  · exact ty_bin (m := 4) (by decide) hs hr
  · exact ty_bin (m := 5) (by decide) hs hr
/-- what lies on the stack behind a product -/
def shW (w : Int32) (s : List Bool) : List Bool := if w = kI 102 then false :: s else false :: false :: s
theorem ty_wqC {w : Int32} (h : okW w) {s : List Bool} (hs : s.length ≤ 29) {r : List Cd} {t : Option (List Bool)} (hr : ty r (false :: s) = t) : ty (wqC w ++ r) (shW w s) = t := by
  rcases h with rfl | rfl | rfl
  · exact hr
  · exact ty_bin (m := 2) (by decide) hs hr
  · exact ty_bin (m := 3) (by decide) hs hr
theorem suG_ty (hV : ∀ k, T k = kI 100 → 0 ≤ (V k).toInt ∧ (V k).toInt < 10000) : ∀ {n : Nat} {w : Int32} {k : Nat} {o : List Cd}, okW w → (suG T V n w k o).1 = 0 → ∃ e, (suG T V n w k o).2.2 = o ++ e ∧ ∀ s : List Bool, s.length ≤ 26 → ty e (shW w s) = some (false :: s) := by
  intro n
  induction n with
  | zero => intro w k o _ h; exact absurd h (by decide : ¬ (9 : Nat) = 0)
  | succ n ih =>
    intro w k o hw h
    unfold suG at h ⊢
    by_cases c1 : T k = kI 42 ∨ T k = kI 47
    · rw [if_pos c1] at h ⊢
      by_cases c2 : (unG T V (T k = kI 47) (k + 1) o).1 = 0
      · rw [if_pos c2] at h ⊢
        obtain ⟨q, q1, q2⟩ := unG_ty hV c2
        obtain ⟨e, e1, e2⟩ := ih hw h
        refine ⟨[q] ++ (mC (T k) ++ e), by rw [e1, q1, List.append_assoc, List.append_assoc], fun s hs => ?_⟩
        have l : (shW w s).length ≤ 28 := by
          unfold shW
          split
          · rw [List.length_cons]; omega
          · rw [List.length_cons, List.length_cons]; omega
        refine ty_step (r := mC (T k) ++ e) (q2 _) (by rw [List.length_cons]; omega) ?_
        have hx := e2 s hs
        unfold shW at hx l ⊢
        by_cases cw : w = kI 102
        · rw [if_pos cw] at hx l ⊢
          exact ty_mC c1 (by omega) hx
        · rw [if_neg cw] at hx l ⊢
          exact ty_mC c1 (by rw [List.length_cons]; omega) hx
      · rw [if_neg c2] at h
        exact absurd h c2
    · rw [if_neg c1] at h ⊢
      by_cases c3 : T k = kI 43 ∨ T k = kI 45
      · rw [if_pos c3] at h ⊢
        by_cases c2 : (unG T V (T k = kI 47) (k + 1) (o ++ wqC w)).1 = 0
        · rw [if_pos c2] at h ⊢
          obtain ⟨q, q1, q2⟩ := unG_ty hV c2
          have hw' : okW (T k) := Or.inr c3
          obtain ⟨e, e1, e2⟩ := ih hw' h
          have em : mC (T k) = [] := mC_no (fun q => c1 (Or.inl q)) (fun q => c1 (Or.inr q))
          refine ⟨wqC w ++ ([q] ++ e), by rw [e1, q1, em, List.append_nil, List.append_assoc, List.append_assoc], fun s hs => ?_⟩
          refine ty_wqC hw (by omega) ?_
          refine ty_step (r := e) (q2 _) (by rw [List.length_cons, List.length_cons]; omega) ?_
          have hx := e2 s hs
          have n102 : ¬ T k = kI 102 := by rcases c3 with c | c <;> rw [c] <;> decide
          unfold shW at hx
          rw [if_neg n102] at hx
          exact hx
        · rw [if_neg c2] at h
          exact absurd h c2
      · rw [if_neg c3]
        refine ⟨wqC w, rfl, fun s hs => ?_⟩
        have := ty_wqC hw (s := s) (by omega) (r := []) (t := some (false :: s)) rfl
        rw [List.append_nil] at this
        exact this
theorem suS_ty (hV : ∀ k, T k = kI 100 → 0 ≤ (V k).toInt ∧ (V k).toInt < 10000) {k : Nat} {o : List Cd} {r : Rs} (h : suS T V k o r) (h0 : r.1 = 0) : ∃ e, r.2.2 = o ++ e ∧ ∀ s : List Bool, s.length ≤ 26 → ty e s = some (false :: s) := by
  rcases h with ⟨a, e⟩ | ⟨a, _, n, e⟩
  · rw [e] at h0
    exact absurd h0 a
  · obtain ⟨q, q1, q2⟩ := unG_ty hV a
    rw [← e] at h0 ⊢
    obtain ⟨e', e1, e2⟩ := suG_ty hV (Or.inl rfl) h0
    refine ⟨[q] ++ e', ?_, fun s hs => ?_⟩
    · rw [e1, q1, mC_no (by decide) (by decide), List.append_nil, List.append_assoc]
    · exact ty_step (r := e') (q2 _) (by rw [List.length_cons]; omega) (e2 s hs)
theorem cmR_ty (hV : ∀ k, T k = kI 100 → 0 ≤ (V k).toInt ∧ (V k).toInt < 10000) {k : Nat} {o : List Cd} {r : Rs} (h : cmR T V k o r) (h0 : r.1 = 0) : ∃ e, r.2.2 = o ++ e ∧ ∀ s : List Bool, s.length ≤ 25 → ty e s = some (true :: s) := by
  obtain ⟨r1, s1, h⟩ := h
  rcases h with ⟨a, e⟩ | ⟨a, h⟩
  · rw [e] at h0
    exact absurd h0 a
  · obtain ⟨e1, p1, t1⟩ := suS_ty hV s1 a
    rcases h with ⟨b, e⟩ | ⟨b, r2, s2, h⟩
    · rw [e] at h0
      exact absurd h0 (by decide : ¬ (1 : Nat) = 0)
    · rcases h with ⟨c, e⟩ | ⟨c, e⟩
      · rw [e] at h0
        exact absurd h0 c
      · obtain ⟨e2, p2, t2⟩ := suS_ty hV s2 c
        rw [e]
        refine ⟨e1 ++ (e2 ++ [((T r1.2.1).toInt.toNat - 54, kI 0)]), ?_, fun s hs => ?_⟩
        · show r2.2.2 ++ _ = _
          rw [p2, p1, List.append_assoc, List.append_assoc]
        · refine ty_app ⟨_, t1 s (by omega), ?_⟩
          refine ty_app ⟨_, t2 (false :: s) (by rw [List.length_cons]; omega), ?_⟩
          refine ty_step (u := true :: s) ?_ (by rw [List.length_cons]; omega) rfl
          have hm : 6 ≤ (T r1.2.1).toInt.toNat - 54 ∧ (T r1.2.1).toInt.toNat - 54 ≤ 8 := by omega
          generalize (T r1.2.1).toInt.toNat - 54 = m at hm
          unfold ty1
          dsimp only
          rw [if_neg (by omega), if_neg (by omega), if_neg (by omega), if_neg (by omega), if_pos hm]
/-! the machine -/
def cW (S : List Nat) : Nat := S.countP fun x => x == 10 || x == 11
theorem cW_cons {x : Nat} {S : List Nat} : cW (x :: S) = cW S + if x == 10 || x == 11 then 1 else 0 := by
  unfold cW
  rw [List.countP_cons]
theorem cW_9 : ∀ {S : List Nat}, cW (S.dropWhile (· == 9)) = cW S ∧ opn (S.dropWhile (· == 9)) ≤ opn S ∧ lead 9 S ≤ opn S
  | [] => ⟨rfl, Nat.le_refl _, Nat.zero_le _⟩
  | y :: r => by
    obtain ⟨i1, i2, i3⟩ := cW_9 (S := r)
    have el : lead 9 (y :: r) = if (y == 9) = true then lead 9 r + 1 else 0 := by
      unfold lead
      rw [List.takeWhile_cons]
      by_cases e : (y == 9) = true
      · rw [if_pos e, if_pos e]; rfl
      · rw [if_neg e, if_neg e]; rfl
    rw [List.dropWhile_cons, el, opn_cons, cW_cons]
    by_cases e : (y == 9) = true
    · have e9 : y = 9 := by simpa using e
      rw [if_pos e, if_pos e, e9]
      refine ⟨by rw [i1]; rfl, ?_, ?_⟩
      · rw [if_pos (by decide)]; omega
      · rw [if_pos (by decide)]; omega
    · rw [if_neg e, if_neg e, cW_cons, opn_cons]
      exact ⟨rfl, Nat.le_refl _, Nat.zero_le _⟩
theorem cW_le : ∀ {S : List Nat}, adj S → cW S ≤ 2 * opn S + 2 ∧ (top12 S → cW S ≤ 2 * opn S)
  | [], _ => ⟨Nat.zero_le _, fun _ => Nat.zero_le _⟩
  | x :: r, h => by
    obtain ⟨a, b⟩ := h
    obtain ⟨i1, i2⟩ := cW_le b
    rw [cW_cons, opn_cons]
    rcases a with e | e | ⟨e, c⟩ | ⟨e, c⟩
    · rw [e, if_neg (by decide), if_pos (by decide)]
      exact ⟨by omega, fun _ => by omega⟩
    · rw [e, if_neg (by decide), if_pos (by decide)]
      exact ⟨by omega, fun _ => by omega⟩
    · rw [e, if_pos (by decide), if_neg (by decide)]
      refine ⟨?_, fun t => ?_⟩
      · rcases c with c | ⟨q, c⟩ | ⟨q, c⟩
        · rw [c]; decide
        · rw [c] at b ⊢
          obtain ⟨b1, b2⟩ := b
          have t2 : top12 q := by
            rcases b1 with b1 | b1 | ⟨b1, _⟩ | ⟨_, b1⟩
            · omega
            · omega
            · omega
            · exact b1
          have := (cW_le b2).2 t2
          rw [cW_cons, opn_cons, if_pos (by decide), if_neg (by decide)]
          omega
        · have := i2 (Or.inr ⟨q, c⟩)
          omega
      · rcases t with t | ⟨R, t⟩
        · cases t
        · injection t with t1 _
          omega
    · rw [e, if_pos (by decide), if_neg (by decide)]
      refine ⟨?_, fun t => ?_⟩
      · have := i2 c
        omega
      · rcases t with t | ⟨R, t⟩
        · cases t
        · injection t with t1 _
          omega
theorem ty_and {x : Nat} (h : x = 10 ∨ x = 11) {m : Nat} (hm : m ≤ 28) {r : List Cd} {t : Option (List Bool)} (hr : ty r (List.replicate (m + 1) true) = t) : ty ((x, kI 0) :: r) (List.replicate (m + 2) true) = t := by
  refine ty_step (u := List.replicate (m + 1) true) ?_ (by rw [List.length_replicate]; omega) hr
  unfold ty1
  dsimp only
  rw [if_neg (by omega), if_neg (by omega), if_neg (by omega), if_neg (by omega), if_neg (by omega), if_pos h]
  rfl
theorem ty_sW {W : List Nat} (hW : okWd W) {m : Nat} (hm : m ≤ 27) : ty (sW W) (List.replicate (cW W + m + 1) true) = some (List.replicate (m + 1) true) := by
  rcases hW with rfl | rfl | rfl | rfl
  · show some (List.replicate (0 + m + 1) true) = _
    rw [Nat.zero_add]
  · rw [show cW [10] + m + 1 = m + 2 by show 1 + m + 1 = m + 2; omega]
    exact ty_and (Or.inl rfl) (by omega) rfl
  · rw [show cW [11] + m + 1 = m + 2 by show 1 + m + 1 = m + 2; omega]
    exact ty_and (Or.inr rfl) (by omega) rfl
  · rw [show cW [10, 11] + m + 1 = m + 1 + 2 by show 2 + m + 1 = m + 1 + 2; omega]
    exact ty_and (Or.inl rfl) (by omega) (ty_and (Or.inr rfl) (by omega) rfl)
theorem cW_app {W S : List Nat} : cW (W ++ S) = cW W + cW S := by
  unfold cW
  exact List.countP_append ..
theorem ty_nC {c m : Nat} (hc : c ≤ 100) (hm : m ≤ 29) : ty (nC c) (List.replicate (m + 1) true) = some (List.replicate (m + 1) true) := by
  unfold nC
  by_cases e : c = 0
  · rw [if_pos e]; rfl
  · rw [if_neg e]
    refine ty_step (u := List.replicate (m + 1) true) ?_ (by rw [List.length_replicate]; omega) rfl
    unfold ty1
    dsimp only
    rw [if_neg (by decide), if_neg (by decide), if_pos rfl]
    show (if 0 ≤ (kI (c : Nat)).toInt then some (true :: List.replicate m true) else none) = _
    rw [if_pos (by rw [kI_toInt (by omega) (by omega)]; omega)]
    rfl
def mI (o0 : List Cd) (s : Sm) : Prop := (s.1 = 0 ∨ s.1 = 1 → adj s.2.2.1 ∧ opn s.2.2.1 ≤ 8 ∧ (s.1 = 1 → ∀ q, s.2.2.1 ≠ 9 :: q) ∧ ∃ e, s.2.2.2.1 = o0 ++ e ∧ ty e [] = some (List.replicate (cW s.2.2.1 + s.1) true)) ∧ (s.1 = 2 → ∃ e, s.2.2.2.1 = o0 ++ e ∧ ty e [] = some [true])
theorem mI_stN {o0 o : List Cd} {S : List Nat} {k : Nat} (ha : adj S) (ho : opn S ≤ 8) (h : ∃ e, o = o0 ++ e ∧ ty e [] = some (List.replicate (cW S + 1) true)) : mI o0 (1, k, (stN S o).1, (stN S o).2, 0) := by
  obtain ⟨e, e1, e2⟩ := h
  obtain ⟨d1, d2⟩ := adj_dw ha
  obtain ⟨c1, c2, c3⟩ := cW_9 (S := S)
  have b := (cW_le ha).1
  refine ⟨fun _ => ⟨d1, Nat.le_trans c2 ho, fun _ => d2, e ++ nC (lead 9 S), ?_, ?_⟩, fun q => absurd q (by decide : ¬ (1 : Nat) = 2)⟩
  · show o ++ nC (lead 9 S) = _
    rw [e1, List.append_assoc]
  · show ty _ [] = some (List.replicate (cW (S.dropWhile (· == 9)) + 1) true)
    rw [c1]
    exact ty_app ⟨_, e2, ty_nC (by omega) (by omega)⟩
theorem mI_step (hV : ∀ k, T k = kI 100 → 0 ≤ (V k).toInt ∧ (V k).toInt < 10000) {o0 : List Cd} {s t : Sm} (h : mI o0 s) (hs : stM T V s t) : t.1 = 3 ∨ mI o0 t := by
  rcases hs with ⟨m0, hs⟩ | ⟨m1, hs⟩
  · obtain ⟨a, b, _, e, e1, e2⟩ := h.1 (Or.inl m0)
    rw [m0, Nat.add_zero] at e2
    have bw := (cW_le a).1
    rcases hs with ⟨_, _, ht⟩ | ⟨_, c, ht⟩ | ⟨_, r, c, hs⟩
    · rw [ht]; exact Or.inl rfl
    · right
      rw [ht]
      refine ⟨fun _ => ⟨⟨?_, a⟩, ?_, fun q => absurd q (by decide : ¬ (0 : Nat) = 1), e, e1, ?_⟩, fun q => absurd q (by decide : ¬ (0 : Nat) = 2)⟩
      · by_cases c9 : T s.2.1 = kI 23
        · rw [if_pos c9]; exact Or.inl rfl
        · rw [if_neg c9]; exact Or.inr (Or.inl rfl)
      · show opn (_ :: s.2.2.1) ≤ 8
        rw [opn_cons]
        by_cases c9 : T s.2.1 = kI 23
        · rw [if_pos c9, if_pos (show ((9 : Nat) == 9 || (9 : Nat) == 12) = true from rfl)]
          omega
        · rw [if_neg c9, if_pos (show ((12 : Nat) == 9 || (12 : Nat) == 12) = true from rfl)]
          omega
      · show ty e [] = some (List.replicate (cW (_ :: s.2.2.1) + 0) true)
        rw [cW_cons]
        by_cases c9 : T s.2.1 = kI 23
        · rw [if_pos c9, if_neg (by decide)]; exact e2
        · rw [if_neg c9, if_neg (by decide)]; exact e2
    · rcases hs with ⟨_, ht⟩ | ⟨r0, ht⟩
      · rw [ht]; exact Or.inl rfl
      · right
        rw [ht]
        obtain ⟨e', p1, p2⟩ := cmR_ty hV c r0
        refine mI_stN a b ⟨e ++ e', by rw [p1, e1, List.append_assoc], ty_app ⟨_, e2, ?_⟩⟩
        rw [p2 _ (by rw [List.length_replicate]; omega)]
        rfl
  · obtain ⟨a, b, c, e, e1, e2⟩ := h.1 (Or.inr m1)
    rw [m1] at e2
    obtain ⟨W, S2, hS, hW, h12, a2⟩ := adj_split a (c m1)
    have bw := (cW_le a2).2 h12
    rw [hS] at hs b e2
    rw [opn_W hW] at b
    rw [cW_app] at e2
    have eo : stO (W ++ S2) s.2.2.2.1 = (S2, s.2.2.2.1 ++ sW W) := stO_W hW h12
    have em : ty (e ++ sW W) [] = some (List.replicate (cW S2 + 1) true) := ty_app ⟨_, e2, ty_sW hW (by omega)⟩
    rw [eo] at hs
    by_cases t22 : T s.2.1 = kI 22
    · rw [if_pos t22] at hs
      right
      rw [hs]
      -- and
      have key : ∀ {W' : List Nat} {o' e' : List Cd}, W' = [] ∨ W' = [11] → stA (W ++ S2) s.2.2.2.1 = (W' ++ S2, o') → o' = o0 ++ e' → ty e' [] = some (List.replicate (cW (W' ++ S2) + 1) true) → mI o0 (0, s.2.1 + 1, 10 :: (stA (W ++ S2) s.2.2.2.1).1, (stA (W ++ S2) s.2.2.2.1).2, 0) := by
        intro W' o' e' hW' hA ho' ht'
        rw [hA]
        refine ⟨fun _ => ⟨⟨Or.inr (Or.inr (Or.inl ⟨rfl, ?_⟩)), ?_⟩, ?_, fun q => absurd q (by decide : ¬ (0 : Nat) = 1), e', ho', ?_⟩, fun q => absurd q (by decide : ¬ (0 : Nat) = 2)⟩
        · rcases hW' with rfl | rfl
          · rcases h12 with q | ⟨R, q⟩
            · exact Or.inl q
            · exact Or.inr (Or.inr ⟨R, q⟩)
          · exact Or.inr (Or.inl ⟨S2, rfl⟩)
        · rcases hW' with rfl | rfl
          · exact a2
          · exact ⟨Or.inr (Or.inr (Or.inr ⟨rfl, h12⟩)), a2⟩
        · show opn (10 :: (W' ++ S2)) ≤ 8
          rw [opn_cons, if_neg (by decide)]
          rcases hW' with rfl | rfl
          · exact b
          · show opn (11 :: S2) + 0 ≤ 8
            rw [opn_cons, if_neg (by decide)]
            exact b
        · show ty e' [] = some (List.replicate (cW (10 :: (W' ++ S2)) + 0) true)
          rw [cW_cons, if_pos (by decide)]
          exact ht'
      rcases hW with rfl | rfl | rfl | rfl
      · refine key (W' := []) (o' := s.2.2.2.1) (e' := e) (Or.inl rfl) (stA_W (Or.inl rfl) h12).1 e1 ?_
        have e2 : ty e [] = some (List.replicate (0 + cW S2 + 1) true) := e2
        rw [Nat.zero_add] at e2
        exact e2
      · refine key (W' := []) (o' := s.2.2.2.1 ++ [(10, kI 0)]) (e' := e ++ [(10, kI 0)]) (Or.inl rfl) (stA_W (W := []) (Or.inl rfl) h12).2 (by rw [e1, List.append_assoc]) ?_
        exact em
      · refine key (W' := [11]) (o' := s.2.2.2.1) (e' := e) (Or.inr rfl) (stA_W (Or.inr rfl) h12).1 e1 ?_
        rw [cW_app]
        exact e2
      · refine key (W' := [11]) (o' := s.2.2.2.1 ++ [(10, kI 0)]) (e' := e ++ [(10, kI 0)]) (Or.inr rfl) (stA_W (W := [11]) (Or.inr rfl) h12).2 (by rw [e1, List.append_assoc]) ?_
        rw [cW_app]
        refine ty_app ⟨_, e2, ?_⟩
        rw [show cW [10, 11] + cW S2 + 1 = cW S2 + 1 + 2 by show 2 + cW S2 + 1 = _; omega, show cW [11] + cW S2 + 1 = cW S2 + 1 + 1 by show 1 + cW S2 + 1 = _; omega]
        exact ty_and (Or.inl rfl) (by omega) rfl
    · rw [if_neg t22] at hs
      by_cases t21 : T s.2.1 = kI 21
      · rw [if_pos t21] at hs
        right
        rw [hs]
        refine ⟨fun _ => ⟨⟨Or.inr (Or.inr (Or.inr ⟨rfl, h12⟩)), a2⟩, ?_, fun q => absurd q (by decide : ¬ (0 : Nat) = 1), e ++ sW W, ?_, ?_⟩, fun q => absurd q (by decide : ¬ (0 : Nat) = 2)⟩
        · show opn (11 :: S2) ≤ 8
          rw [opn_cons, if_neg (by decide)]
          exact b
        · show s.2.2.2.1 ++ sW W = _
          rw [e1, List.append_assoc]
        · show ty _ [] = some (List.replicate (cW (11 :: S2) + 0) true)
          rw [cW_cons, if_pos (by decide)]
          exact em
      · rw [if_neg t21] at hs
        by_cases n12 : ¬ 12 ∈ S2
        · rw [if_pos n12] at hs
          right
          rw [hs]
          have e0 : S2 = [] := by
            rcases h12 with q | ⟨R, q⟩
            · exact q
            · rw [q] at n12
              exact absurd List.mem_cons_self n12
          rw [e0] at em
          refine ⟨fun q => absurd q (by decide : ¬ ((2 : Nat) = 0 ∨ (2 : Nat) = 1)), fun _ => ⟨e ++ sW W, ?_, em⟩⟩
          show s.2.2.2.1 ++ sW W = _
          rw [e1, List.append_assoc]
        · rw [if_neg n12] at hs
          by_cases t41 : ¬ T s.2.1 = kI 41
          · rw [if_pos t41] at hs
            rw [hs]; exact Or.inl rfl
          · rw [if_neg t41] at hs
            right
            rw [hs]
            rcases h12 with q | ⟨R, q⟩
            · rw [q] at n12
              exact absurd List.not_mem_nil n12
            · rw [q] at a2 b em bw ⊢
              rw [opn_cons, if_pos (by decide)] at b
              rw [cW_cons, if_neg (by decide)] at em
              exact mI_stN (S := R) a2.2 (by omega) ⟨e ++ sW W, by rw [e1, List.append_assoc], em⟩
theorem mI_run (hV : ∀ k, T k = kI 100 → 0 ≤ (V k).toInt ∧ (V k).toInt < 10000) {o0 : List Cd} : ∀ {n : Nat} {s t : Sm}, mI o0 s → anS T V n s t → t.1 = 3 ∨ mI o0 t := by
  intro n
  induction n with
  | zero =>
    intro s t h hs
    have hs : s = t := hs
    rw [← hs]
    exact Or.inr h
  | succ n ih =>
    intro s t h hs
    obtain ⟨u, h1, h2⟩ := hs
    rcases mI_step hV h h1 with q | q
    · cases n with
      | zero =>
        have h2 : u = t := h2
        rw [← h2]
        exact Or.inl q
      | succ n =>
        obtain ⟨w, h3, _⟩ := h2
        exact absurd h3 (fin_no (Or.inr q))
    · exact ih q h2
theorem sR_ty (hV : ∀ k, T k = kI 100 → 0 ≤ (V k).toInt ∧ (V k).toInt < 10000) {k : Nat} {o : List Cd} {t : Sm} (h : sR T V (0, k, [], o, 0) t) (h2 : t.1 = 2) : ∃ e, t.2.2.2.1 = o ++ e ∧ ty e [] = some [true] := by
  obtain ⟨n, h⟩ := h
  have i0 : mI o (0, k, [], o, 0) := ⟨fun _ => ⟨trivial, Nat.zero_le _, fun q => absurd q (by decide : ¬ (0 : Nat) = 1), [], (List.append_nil o).symm, rfl⟩, fun q => absurd q (by decide : ¬ (0 : Nat) = 2)⟩
  rcases mI_run hV i0 h with q | q
  · omega
  · exact q.2 h2
/-! lines -/
theorem sl_1 {o e : List Cd} : sl (o ++ e) o.length (o ++ e).length = e := by
  unfold sl
  rw [List.take_length, List.drop_left]
theorem sl_2 {o e f : List Cd} {a : Nat} : sl (o ++ e) a o.length = sl o a o.length := by
  unfold sl
  rw [List.take_left, List.take_length]
theorem sl_more {o e : List Cd} {a b : Nat} (h : b ≤ o.length) : sl (o ++ e) a b = sl o a b := by
  unfold sl
  rw [List.take_append_of_le_length h]
theorem wfLn_more {o e : List Cd} {x : Ln} (h : wfLn o x) : wfLn (o ++ e) x := by
  obtain ⟨h1, h2, h3, h4, h5⟩ := h
  unfold wfLn
  rw [sl_more (by omega), sl_more h3, List.length_append]
  exact ⟨h1, h2, by omega, h4, h5⟩
theorem liR_ty (hV : ∀ k, T k = kI 100 → 0 ≤ (V k).toInt ∧ (V k).toInt < 10000) {k : Nat} {o : List Cd} {q : Rl} (h : liR T V k o q) (h0 : q.1 = 0) : ∃ ln e, q.2.2.2 = [ln] ∧ q.2.2.1 = o ++ e ∧ wfLn q.2.2.1 ln := by
  obtain ⟨r1, s1, h⟩ := h
  rcases h with ⟨a, e⟩ | ⟨a, h⟩
  · rw [e] at h0
    exact absurd h0 a
  · obtain ⟨e1, p1, t1⟩ := suS_ty hV s1 a
    have t1 := t1 [] (by decide)
    rcases h with ⟨b, h⟩ | ⟨b, t, st, h⟩
    · rcases h with ⟨_, e⟩ | ⟨_, e⟩
      · rw [e]
        refine ⟨_, e1, rfl, p1, ?_⟩
        show wfLn r1.2.2 _
        rw [p1]
        refine ⟨?_, Nat.le_refl _, Nat.le_refl _, ?_, Or.inl rfl⟩
        · show o.length ≤ (o ++ e1).length
          rw [List.length_append]; omega
        · show ty (sl (o ++ e1) o.length (o ++ e1).length) [] = _
          rw [sl_1]; exact t1
      · rw [e] at h0
        exact absurd h0 (by decide : ¬ (1 : Nat) = 0)
    · rcases h with ⟨t3, e⟩ | ⟨t2, h⟩
      · rw [e] at h0
        have h0 : t.2.2.2.2 = 0 := h0
        exfalso
        -- a fault is not 0
        obtain ⟨n, st⟩ := st
        have nz : ∀ {n : Nat} {s u : Sm}, anS T V n s u → s.1 ≠ 3 → u.1 = 3 → u.2.2.2.2 ≠ 0 := by
          intro n
          induction n with
          | zero =>
            intro s u hs h1 h2
            have hs : s = u := hs
            rw [hs] at h1
            exact absurd h2 h1
          | succ n ih =>
            intro s u hs h1 h2
            obtain ⟨w, w1, w2⟩ := hs
            by_cases w3 : w.1 = 3
            · have ew : w = u := by
                cases n with
                | zero => exact w2
                | succ n =>
                  obtain ⟨z, z1, _⟩ := w2
                  exact absurd z1 (fin_no (Or.inr w3))
              rw [← ew]
              rcases w1 with ⟨_, w1⟩ | ⟨_, w1⟩
              · rcases w1 with ⟨_, _, ht⟩ | ⟨_, _, ht⟩ | ⟨_, r, c, w1⟩
                · rw [ht]; exact (by decide : (3 : Nat) ≠ 0)
                · rw [ht] at w3; exact absurd w3 (by decide : ¬ (0 : Nat) = 3)
                · rcases w1 with ⟨r0, ht⟩ | ⟨r0, ht⟩
                  · rw [ht]; exact r0
                  · rw [ht] at w3; exact absurd w3 (by decide : ¬ (1 : Nat) = 3)
              · rw [w1] at w3 ⊢
                by_cases t22 : T s.2.1 = kI 22
                · rw [if_pos t22] at w3; exact absurd w3 (by decide : ¬ (0 : Nat) = 3)
                · rw [if_neg t22] at w3 ⊢
                  by_cases t21 : T s.2.1 = kI 21
                  · rw [if_pos t21] at w3; exact absurd w3 (by decide : ¬ (0 : Nat) = 3)
                  · rw [if_neg t21] at w3 ⊢
                    by_cases n12 : ¬ 12 ∈ (stO s.2.2.1 s.2.2.2.1).1
                    · rw [if_pos n12] at w3; exact absurd w3 (by decide : ¬ (2 : Nat) = 3)
                    · rw [if_neg n12] at w3 ⊢
                      by_cases t41 : ¬ T s.2.1 = kI 41
                      · rw [if_pos t41]; exact (by decide : (1 : Nat) ≠ 0)
                      · rw [if_neg t41] at w3; exact absurd w3 (by decide : ¬ (1 : Nat) = 3)
            · exact ih w2 w3 h2
        exact nz st (by decide : (0 : Nat) ≠ 3) t3 h0
      · obtain ⟨e2, p2, ht2⟩ := sR_ty hV st t2
        rcases h with ⟨_, e⟩ | ⟨_, e⟩
        · rw [e]
          refine ⟨_, e1 ++ e2, rfl, ?_, ?_⟩
          · show t.2.2.2.1 = _
            rw [p2, p1, List.append_assoc]
          · show wfLn t.2.2.2.1 _
            rw [p2]
            refine ⟨?_, ?_, Nat.le_refl _, ?_, Or.inr ?_⟩
            · show o.length ≤ r1.2.2.length
              rw [p1, List.length_append]; omega
            · show r1.2.2.length ≤ (r1.2.2 ++ e2).length
              rw [List.length_append]; omega
            · show ty (sl (r1.2.2 ++ e2) o.length r1.2.2.length) [] = _
              rw [sl_2 (f := []), p1, sl_1]
              exact t1
            · show ty (sl (r1.2.2 ++ e2) r1.2.2.length (r1.2.2 ++ e2).length) [] = _
              rw [sl_1]
              exact ht2
        · rw [e] at h0
          exact absurd h0 (by decide : ¬ (1 : Nat) = 0)
theorem laR_ty (hV : ∀ k, T k = kI 100 → 0 ≤ (V k).toInt ∧ (V k).toInt < 10000) : ∀ {m k : Nat} {o : List Cd} {r : Rl}, laR T V m k o r → r.1 = 0 → (∃ e, r.2.2.1 = o ++ e) ∧ wfLw r.2.2.1 r.2.2.2 ∧ r.2.2.2.length ≤ m := by
  intro m
  induction m with
  | zero =>
    intro k o r h h0
    rcases h with ⟨_, e⟩ | ⟨_, h⟩
    · rw [e]
      exact ⟨⟨[], (List.append_nil o).symm⟩, fun x hx => absurd hx List.not_mem_nil, Nat.zero_le _⟩
    · rcases h with ⟨_, e⟩ | ⟨_, e⟩
      · rw [e] at h0; exact absurd h0 (by decide : ¬ (1 : Nat) = 0)
      · rw [e] at h0; exact absurd h0 (by decide : ¬ (3 : Nat) = 0)
  | succ m ih =>
    intro k o r h h0
    rcases h with ⟨_, e⟩ | ⟨_, h⟩
    · rw [e]
      exact ⟨⟨[], (List.append_nil o).symm⟩, fun x hx => absurd hx List.not_mem_nil, Nat.zero_le _⟩
    · rcases h with ⟨_, e⟩ | ⟨_, q, hq, h⟩
      · rw [e] at h0; exact absurd h0 (by decide : ¬ (1 : Nat) = 0)
      · rcases h with ⟨q0, e⟩ | ⟨q0, r', hr, e⟩
        · rw [e] at h0; exact absurd h0 q0
        · obtain ⟨ln, e1, l1, l2, l3⟩ := liR_ty hV hq q0
          rw [e] at h0 ⊢
          obtain ⟨⟨e2, p2⟩, w2, n2⟩ := ih hr h0
          refine ⟨⟨e1 ++ e2, ?_⟩, ?_, ?_⟩
          · show r'.2.2.1 = _
            rw [p2, l2, List.append_assoc]
          · intro x hx
            show wfLn r'.2.2.1 x
            rcases List.mem_append.mp hx with hx | hx
            · rw [l1] at hx
              rw [List.mem_singleton.mp hx, p2]
              exact wfLn_more l3
            · exact w2 x hx
          · show (q.2.2.2 ++ r'.2.2.2).length ≤ m + 1
            rw [List.length_append, l1, List.length_singleton]
            omega
end TY
