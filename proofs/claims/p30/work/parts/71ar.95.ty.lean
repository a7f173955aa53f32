/-! what is read is of those kinds -/
theorem xWd_100 {B : Nat → Int32} {p e : Nat} : ¬ xWd B p e = kI 100 := by
  unfold xWd
  split
  · rename_i j hj
    have := List.mem_range.mp (List.mem_of_find?_eq_some hj)
    rw [yk (by decide) (by decide), kI_toInt (by omega) (by omega)]
    omega
  · decide
theorem yV_rg {B : Nat → Int32} {n k : Nat} (h : yT B n k = kI 100) : 0 ≤ (yV B n k).toInt ∧ (yV B n k).toInt < 10000 := by
  unfold yT at h
  unfold yV
  by_cases c : xSt B n k < n
  · rw [if_pos c] at h ⊢
    generalize xSt B n k = p at *
    unfold xTk at h
    unfold xVl
    by_cases c1 : xLt (B p) = true
    · rw [if_pos c1] at h
      exact absurd h xWd_100
    · rw [if_neg c1] at h ⊢
      by_cases c2 : xDg (B p) = true
      · rw [if_pos c2] at h ⊢
        by_cases c3 : xEnd xDg B n (p + 1) - p ≤ 4
        · have q := xV_rg (B := B) (p := p) (k := xEnd xDg B n (p + 1) - p) (fun i hi => by
            by_cases e : i = 0
            · rw [e]; exact c2
            · exact xEnd_in (f := xDg) (B := B) (n := n) (p := p + 1) rfl (p + i) (by omega) (by omega)) c3
          refine ⟨q.1, ?_⟩
          have m : (10 : Int) ^ (xEnd xDg B n (p + 1) - p) ≤ 10 ^ 4 := by
            generalize xEnd xDg B n (p + 1) - p = z at c3
            have e : z = 0 ∨ z = 1 ∨ z = 2 ∨ z = 3 ∨ z = 4 := by omega
            rcases e with rfl | rfl | rfl | rfl | rfl <;> decide
          have := q.2
          have e4 : (10 : Int) ^ 4 = 10000 := by decide
          omega
        · rw [if_neg c3] at h
          exact absurd h (by decide)
      · rw [if_neg c2] at h
        by_cases c4 : f_63 (B p) = 0
        · rw [if_pos c4] at h
          exact absurd h (by decide)
        · rw [if_neg c4] at h
          have := f63_rg c4
          rw [h, kI_toInt (by decide) (by decide)] at this
          omega
  · rw [if_neg c] at h
    exact absurd h (by decide)
section TY
variable {T V : Nat → Int32}
theorem unG_ty (hV : ∀ k, T k = kI 100 → 0 ≤ (V k).toInt ∧ (V k).toInt < 10000) {d : Prop} [Decidable d] {k : Nat} {o : List Cd} (h : (unG T V d k o).1 = 0) : ∃ q, (unG T V d k o).2.2 = o ++ [q] ∧ ∀ s, ty1 q s = some (false :: s) := by
  unfold unG at h ⊢
  by_cases a : T k = kI 100
  · rw [if_pos a] at h ⊢
    by_cases b : d ∧ V k = kI 0
    · rw [if_pos b] at h
      exact absurd h (by decide : ¬ (2 : Nat) = 0)
    · rw [if_neg b]
      refine ⟨_, rfl, fun s => ?_⟩
      unfold ty1
      rw [if_pos rfl, if_pos (hV k a)]
  · rw [if_neg a] at h ⊢
    by_cases b : 0 ≤ (T k).toInt ∧ (T k).toInt ≤ 13 ∧ ¬ d
    · rw [if_pos b]
      refine ⟨_, rfl, fun s => ?_⟩
      unfold ty1
      rw [if_neg (show ¬ (1 : Nat) = 0 by decide), if_pos rfl, if_pos ⟨b.1, b.2.1⟩]
    · rw [if_neg b] at h
      exact absurd h (by decide : ¬ (1 : Nat) = 0)
theorem ty_bin {m : Nat} {s : List Bool} (h : 2 ≤ m ∧ m ≤ 5) (hs : s.length ≤ 29) {r : List Cd} {t : Option (List Bool)} (hr : ty r (false :: s) = t) : ty ((m, kI 0) :: r) (false :: false :: s) = t := by
  refine ty_step (u := false :: s) ?_ (by rw [List.length_cons]; omega) hr
  unfold ty1
  dsimp only
  rw [if_neg (by omega), if_neg (by omega), if_neg (by omega), if_pos h]
theorem ty_mC {c : Int32} (h : c = kI 42 ∨ c = kI 47) {s : List Bool} (hs : s.length ≤ 29) {r : List Cd} {t : Option (List Bool)} (hr : ty r (false :: s) = t) : ty (mC c ++ r) (false :: false :: s) = t := by
  rcases h with rfl | rfl
  · exact ty_bin (m := 4) (by decide) hs hr
  · exact ty_bin (m := 5) (by decide) hs hr
/-- what lies on the stack behind a product -/
def shW (w : Int32) (s : List Bool) : List Bool := if w = kI 102 then false :: s else false :: false :: s
theorem ty_wqC {w : Int32} (h : okW w) {s : List Bool} (hs : s.length ≤ 29) {r : List Cd} {t : Option (List Bool)} (hr : ty r (false :: s) = t) : ty (wqC w ++ r) (shW w s) = t := by
  rcases h with rfl | rfl | rfl
  · exact hr
  · exact ty_bin (m := 2) (by decide) hs hr
  · exact ty_bin (m := 3) (by decide) hs hr
theorem suG_ty (hV : ∀ k, T k = kI 100 → 0 ≤ (V k).toInt ∧ (V k).toInt < 10000) : ∀ {n : Nat} {w : Int32} {k : Nat} {o : List Cd}, okW w → (suG T V n w k o).1 = 0 → ∃ e, (suG T V n w k o).2.2 = o ++ e ∧ ∀ s : List Bool, s.length ≤ 26 → ty e (shW w s) = some (false :: s) := by
  intro n
  induction n with
  | zero => intro w k o _ h; exact absurd h (by decide : ¬ (9 : Nat) = 0)
  | succ n ih =>
    intro w k o hw h
    unfold suG at h ⊢
    by_cases c1 : T k = kI 42 ∨ T k = kI 47
    · rw [if_pos c1] at h ⊢
      by_cases c2 : (unG T V (T k = kI 47) (k + 1) o).1 = 0
      · rw [if_pos c2] at h ⊢
        obtain ⟨q, q1, q2⟩ := unG_ty hV c2
        obtain ⟨e, e1, e2⟩ := ih hw h
        refine ⟨[q] ++ (mC (T k) ++ e), by rw [e1, q1, List.append_assoc, List.append_assoc], fun s hs => ?_⟩
        have l : (shW w s).length ≤ 28 := by
          unfold shW
          split
          · rw [List.length_cons]; omega
          · rw [List.length_cons, List.length_cons]; omega
        refine ty_step (r := mC (T k) ++ e) (q2 _) (by rw [List.length_cons]; omega) ?_
        have hx := e2 s hs
        unfold shW at hx l ⊢
        by_cases cw : w = kI 102
        · rw [if_pos cw] at hx l ⊢
          exact ty_mC c1 (by omega) hx
        · rw [if_neg cw] at hx l ⊢
          exact ty_mC c1 (by rw [List.length_cons]; omega) hx
      · rw [if_neg c2] at h
        exact absurd h c2
    · rw [if_neg c1] at h ⊢
      by_cases c3 : T k = kI 43 ∨ T k = kI 45
      · rw [if_pos c3] at h ⊢
        by_cases c2 : (unG T V (T k = kI 47) (k + 1) (o ++ wqC w)).1 = 0
        · rw [if_pos c2] at h ⊢
          obtain ⟨q, q1, q2⟩ := unG_ty hV c2
          have hw' : okW (T k) := Or.inr c3
          obtain ⟨e, e1, e2⟩ := ih hw' h
          have em : mC (T k) = [] := mC_no (fun q => c1 (Or.inl q)) (fun q => c1 (Or.inr q))
          refine ⟨wqC w ++ ([q] ++ e), by rw [e1, q1, em, List.append_nil, List.append_assoc, List.append_assoc], fun s hs => ?_⟩
          refine ty_wqC hw (by omega) ?_
          refine ty_step (r := e) (q2 _) (by rw [List.length_cons, List.length_cons]; omega) ?_
          have hx := e2 s hs
          have n102 : ¬ T k = kI 102 := by rcases c3 with c | c <;> rw [c] <;> decide
          unfold shW at hx
          rw [if_neg n102] at hx
          exact hx
        · rw [if_neg c2] at h
          exact absurd h c2
      · rw [if_neg c3]
        refine ⟨wqC w, rfl, fun s hs => ?_⟩
        have := ty_wqC hw (s := s) (by omega) (r := []) (t := some (false :: s)) rfl
        rw [List.append_nil] at this
        exact this
theorem suS_ty (hV : ∀ k, T k = kI 100 → 0 ≤ (V k).toInt ∧ (V k).toInt < 10000) {k : Nat} {o : List Cd} {r : Rs} (h : suS T V k o r) (h0 : r.1 = 0) : ∃ e, r.2.2 = o ++ e ∧ ∀ s : List Bool, s.length ≤ 26 → ty e s = some (false :: s) := by
  rcases h with ⟨a, e⟩ | ⟨a, _, n, e⟩
  · rw [e] at h0
    exact absurd h0 a
  · obtain ⟨q, q1, q2⟩ := unG_ty hV a
    rw [← e] at h0 ⊢
    obtain ⟨e', e1, e2⟩ := suG_ty hV (Or.inl rfl) h0
    refine ⟨[q] ++ e', ?_, fun s hs => ?_⟩
    · rw [e1, q1, mC_no (by decide) (by decide), List.append_nil, List.append_assoc]
    · exact ty_step (r := e') (q2 _) (by rw [List.length_cons]; omega) (e2 s hs)
theorem cmR_ty (hV : ∀ k, T k = kI 100 → 0 ≤ (V k).toInt ∧ (V k).toInt < 10000) {k : Nat} {o : List Cd} {r : Rs} (h : cmR T V k o r) (h0 : r.1 = 0) : ∃ e, r.2.2 = o ++ e ∧ ∀ s : List Bool, s.length ≤ 25 → ty e s = some (true :: s) := by
  obtain ⟨r1, s1, h⟩ := h
  rcases h with ⟨a, e⟩ | ⟨a, h⟩
  · rw [e] at h0
    exact absurd h0 a
  · obtain ⟨e1, p1, t1⟩ := suS_ty hV s1 a
    rcases h with ⟨b, e⟩ | ⟨b, r2, s2, h⟩
    · rw [e] at h0
      exact absurd h0 (by decide : ¬ (1 : Nat) = 0)
    · rcases h with ⟨c, e⟩ | ⟨c, e⟩
      · rw [e] at h0
        exact absurd h0 c
      · obtain ⟨e2, p2, t2⟩ := suS_ty hV s2 c
        rw [e]
        refine ⟨e1 ++ (e2 ++ [((T r1.2.1).toInt.toNat - 54, kI 0)]), ?_, fun s hs => ?_⟩
        · show r2.2.2 ++ _ = _
          rw [p2, p1, List.append_assoc, List.append_assoc]
        · refine ty_app ⟨_, t1 s (by omega), ?_⟩
          refine ty_app ⟨_, t2 (false :: s) (by rw [List.length_cons]; omega), ?_⟩
          refine ty_step (u := true :: s) ?_ (by rw [List.length_cons]; omega) rfl
          have hm : 6 ≤ (T r1.2.1).toInt.toNat - 54 ∧ (T r1.2.1).toInt.toNat - 54 ≤ 8 := by omega
          generalize (T r1.2.1).toInt.toNat - 54 = m at hm
          unfold ty1
          dsimp only
          rw [if_neg (by omega), if_neg (by omega), if_neg (by omega), if_neg (by omega), if_pos hm]
/-! the machine -/
def cW (S : List Nat) : Nat := S.countP fun x => x == 10 || x == 11
theorem cW_cons {x : Nat} {S : List Nat} : cW (x :: S) = cW S + if x == 10 || x == 11 then 1 else 0 := by
  unfold cW
  rw [List.countP_cons]
theorem cW_9 : ∀ {S : List Nat}, cW (S.dropWhile (· == 9)) = cW S ∧ opn (S.dropWhile (· == 9)) ≤ opn S ∧ lead 9 S ≤ opn S
  | [] => ⟨rfl, Nat.le_refl _, Nat.zero_le _⟩
  | y :: r => by
    obtain ⟨i1, i2, i3⟩ := cW_9 (S := r)
    have el : lead 9 (y :: r) = if (y == 9) = true then lead 9 r + 1 else 0 := by
      unfold lead
      rw [List.takeWhile_cons]
      by_cases e : (y == 9) = true
      · rw [if_pos e, if_pos e]; rfl
      · rw [if_neg e, if_neg e]; rfl
    rw [List.dropWhile_cons, el, opn_cons, cW_cons]
    by_cases e : (y == 9) = true
    · have e9 : y = 9 := by simpa using e
      rw [if_pos e, if_pos e, e9]
      refine ⟨by rw [i1]; rfl, ?_, ?_⟩
      · rw [if_pos (by decide)]; omega
      · rw [if_pos (by decide)]; omega
    · rw [if_neg e, if_neg e, cW_cons, opn_cons]
      exact ⟨rfl, Nat.le_refl _, Nat.zero_le _⟩
theorem cW_le : ∀ {S : List Nat}, adj S → cW S ≤ 2 * opn S + 2 ∧ (top12 S → cW S ≤ 2 * opn S)
  | [], _ => ⟨Nat.zero_le _, fun _ => Nat.zero_le _⟩
  | x :: r, h => by
    obtain ⟨a, b⟩ := h
    obtain ⟨i1, i2⟩ := cW_le b
    rw [cW_cons, opn_cons]
    rcases a with e | e | ⟨e, c⟩ | ⟨e, c⟩
    · rw [e, if_neg (by decide), if_pos (by decide)]
      exact ⟨by omega, fun _ => by omega⟩
    · rw [e, if_neg (by decide), if_pos (by decide)]
      exact ⟨by omega, fun _ => by omega⟩
    · rw [e, if_pos (by decide), if_neg (by decide)]
      refine ⟨?_, fun t => ?_⟩
      · rcases c with c | ⟨q, c⟩ | ⟨q, c⟩
        · rw [c]; decide
        · rw [c] at b ⊢
          obtain ⟨b1, b2⟩ := b
          have t2 : top12 q := by
            rcases b1 with b1 | b1 | ⟨b1, _⟩ | ⟨_, b1⟩
            · omega
            · omega
            · omega
            · exact b1
          have := (cW_le b2).2 t2
          rw [cW_cons, opn_cons, if_pos (by decide), if_neg (by decide)]
          omega
        · have := i2 (Or.inr ⟨q, c⟩)
          omega
      · rcases t with t | ⟨R, t⟩
        · cases t
        · injection t with t1 _
          omega
    · rw [e, if_pos (by decide), if_neg (by decide)]
      refine ⟨?_, fun t => ?_⟩
      · have := i2 c
        omega
      · rcases t with t | ⟨R, t⟩
        · cases t
        · injection t with t1 _
          omega
theorem ty_and {x : Nat} (h : x = 10 ∨ x = 11) {m : Nat} (hm : m ≤ 28) {r : List Cd} {t : Option (List Bool)} (hr : ty r (List.replicate (m + 1) true) = t) : ty ((x, kI 0) :: r) (List.replicate (m + 2) true) = t := by
  refine ty_step (u := List.replicate (m + 1) true) ?_ (by rw [List.length_replicate]; omega) hr
  unfold ty1
  dsimp only
  rw [if_neg (by omega), if_neg (by omega), if_neg (by omega), if_neg (by omega), if_neg (by omega), if_pos h]
  rfl
theorem ty_sW {W : List Nat} (hW : okWd W) {m : Nat} (hm : m ≤ 27) : ty (sW W) (List.replicate (cW W + m + 1) true) = some (List.replicate (m + 1) true) := by
  rcases hW with rfl | rfl | rfl | rfl
  · show some (List.replicate (0 + m + 1) true) = _
    rw [Nat.zero_add]
  · rw [show cW [10] + m + 1 = m + 2 by show 1 + m + 1 = m + 2; omega]
    exact ty_and (Or.inl rfl) (by omega) rfl
  · rw [show cW [11] + m + 1 = m + 2 by show 1 + m + 1 = m + 2; omega]
    exact ty_and (Or.inr rfl) (by omega) rfl
  · rw [show cW [10, 11] + m + 1 = m + 1 + 2 by show 2 + m + 1 = m + 1 + 2; omega]
    exact ty_and (Or.inl rfl) (by omega) (ty_and (Or.inr rfl) (by omega) rfl)
theorem cW_app {W S : List Nat} : cW (W ++ S) = cW W + cW S := by
  unfold cW
  exact List.countP_append ..
theorem ty_nC {c m : Nat} (hc : c ≤ 100) (hm : m ≤ 29) : ty (nC c) (List.replicate (m + 1) true) = some (List.replicate (m + 1) true) := by
  unfold nC
  by_cases e : c = 0
  · rw [if_pos e]; rfl
  · rw [if_neg e]
    refine ty_step (u := List.replicate (m + 1) true) ?_ (by rw [List.length_replicate]; omega) rfl
    unfold ty1
    dsimp only
    rw [if_neg (by decide), if_neg (by decide), if_pos rfl]
    show (if 0 ≤ (kI (c : Nat)).toInt then some (true :: List.replicate m true) else none) = _
    rw [if_pos (by rw [kI_toInt (by omega) (by omega)]; omega)]
    rfl
def mI (o0 : List Cd) (s : Sm) : Prop := (s.1 = 0 ∨ s.1 = 1 → adj s.2.2.1 ∧ opn s.2.2.1 ≤ 8 ∧ (s.1 = 1 → ∀ q, s.2.2.1 ≠ 9 :: q) ∧ ∃ e, s.2.2.2.1 = o0 ++ e ∧ ty e [] = some (List.replicate (cW s.2.2.1 + s.1) true)) ∧ (s.1 = 2 → ∃ e, s.2.2.2.1 = o0 ++ e ∧ ty e [] = some [true])
theorem mI_stN {o0 o : List Cd} {S : List Nat} {k : Nat} (ha : adj S) (ho : opn S ≤ 8) (h : ∃ e, o = o0 ++ e ∧ ty e [] = some (List.replicate (cW S + 1) true)) : mI o0 (1, k, (stN S o).1, (stN S o).2, 0) := by
  obtain ⟨e, e1, e2⟩ := h
  obtain ⟨d1, d2⟩ := adj_dw ha
  obtain ⟨c1, c2, c3⟩ := cW_9 (S := S)
  have b := (cW_le ha).1
  refine ⟨fun _ => ⟨d1, Nat.le_trans c2 ho, fun _ => d2, e ++ nC (lead 9 S), ?_, ?_⟩, fun q => absurd q (by decide : ¬ (1 : Nat) = 2)⟩
  · show o ++ nC (lead 9 S) = _
    rw [e1, List.append_assoc]
  · show ty _ [] = some (List.replicate (cW (S.dropWhile (· == 9)) + 1) true)
    rw [c1]
    exact ty_app ⟨_, e2, ty_nC (by omega) (by omega)⟩
theorem mI_step (hV : ∀ k, T k = kI 100 → 0 ≤ (V k).toInt ∧ (V k).toInt < 10000) {o0 : List Cd} {s t : Sm} (h : mI o0 s) (hs : stM T V s t) : t.1 = 3 ∨ mI o0 t := by
  rcases hs with ⟨m0, hs⟩ | ⟨m1, hs⟩
  · obtain ⟨a, b, _, e, e1, e2⟩ := h.1 (Or.inl m0)
    rw [m0, Nat.add_zero] at e2
    have bw := (cW_le a).1
    rcases hs with ⟨_, _, ht⟩ | ⟨_, c, ht⟩ | ⟨_, r, c, hs⟩
    · rw [ht]; exact Or.inl rfl
    · right
      rw [ht]
      refine ⟨fun _ => ⟨⟨?_, a⟩, ?_, fun q => absurd q (by decide : ¬ (0 : Nat) = 1), e, e1, ?_⟩, fun q => absurd q (by decide : ¬ (0 : Nat) = 2)⟩
      · by_cases c9 : T s.2.1 = kI 23
        · rw [if_pos c9]; exact Or.inl rfl
        · rw [if_neg c9]; exact Or.inr (Or.inl rfl)
      · show opn (_ :: s.2.2.1) ≤ 8
        rw [opn_cons]
        by_cases c9 : T s.2.1 = kI 23
        · rw [if_pos c9, if_pos (show ((9 : Nat) == 9 || (9 : Nat) == 12) = true from rfl)]
          omega
        · rw [if_neg c9, if_pos (show ((12 : Nat) == 9 || (12 : Nat) == 12) = true from rfl)]
          omega
      · show ty e [] = some (List.replicate (cW (_ :: s.2.2.1) + 0) true)
        rw [cW_cons]
        by_cases c9 : T s.2.1 = kI 23
        · rw [if_pos c9, if_neg (by decide)]; exact e2
        · rw [if_neg c9, if_neg (by decide)]; exact e2
    · rcases hs with ⟨_, ht⟩ | ⟨r0, ht⟩
      · rw [ht]; exact Or.inl rfl
      · right
        rw [ht]
        obtain ⟨e', p1, p2⟩ := cmR_ty hV c r0
        refine mI_stN a b ⟨e ++ e', by rw [p1, e1, List.append_assoc], ty_app ⟨_, e2, ?_⟩⟩
        rw [p2 _ (by rw [List.length_replicate]; omega)]
        rfl
  · obtain ⟨a, b, c, e, e1, e2⟩ := h.1 (Or.inr m1)
    rw [m1] at e2
    obtain ⟨W, S2, hS, hW, h12, a2⟩ := adj_split a (c m1)
    have bw := (cW_le a2).2 h12
    rw [hS] at hs b e2
    rw [opn_W hW] at b
    rw [cW_app] at e2
    have eo : stO (W ++ S2) s.2.2.2.1 = (S2, s.2.2.2.1 ++ sW W) := stO_W hW h12
    have em : ty (e ++ sW W) [] = some (List.replicate (cW S2 + 1) true) := ty_app ⟨_, e2, ty_sW hW (by omega)⟩
    rw [eo] at hs
    by_cases t22 : T s.2.1 = kI 22
    · rw [if_pos t22] at hs
      right
      rw [hs]
      -- and
      have key : ∀ {W' : List Nat} {o' e' : List Cd}, W' = [] ∨ W' = [11] → stA (W ++ S2) s.2.2.2.1 = (W' ++ S2, o') → o' = o0 ++ e' → ty e' [] = some (List.replicate (cW (W' ++ S2) + 1) true) → mI o0 (0, s.2.1 + 1, 10 :: (stA (W ++ S2) s.2.2.2.1).1, (stA (W ++ S2) s.2.2.2.1).2, 0) := by
        intro W' o' e' hW' hA ho' ht'
        rw [hA]
        refine ⟨fun _ => ⟨⟨Or.inr (Or.inr (Or.inl ⟨rfl, ?_⟩)), ?_⟩, ?_, fun q => absurd q (by decide : ¬ (0 : Nat) = 1), e', ho', ?_⟩, fun q => absurd q (by decide : ¬ (0 : Nat) = 2)⟩
        · rcases hW' with rfl | rfl
          · rcases h12 with q | ⟨R, q⟩
            · exact Or.inl q
            · exact Or.inr (Or.inr ⟨R, q⟩)
          · exact Or.inr (Or.inl ⟨S2, rfl⟩)
        · rcases hW' with rfl | rfl
          · exact a2
          · exact ⟨Or.inr (Or.inr (Or.inr ⟨rfl, h12⟩)), a2⟩
        · show opn (10 :: (W' ++ S2)) ≤ 8
          rw [opn_cons, if_neg (by decide)]
          rcases hW' with rfl | rfl
          · exact b
          · show opn (11 :: S2) + 0 ≤ 8
            rw [opn_cons, if_neg (by decide)]
            exact b
        · show ty e' [] = some (List.replicate (cW (10 :: (W' ++ S2)) + 0) true)
          rw [cW_cons, if_pos (by decide)]
          exact ht'
      rcases hW with rfl | rfl | rfl | rfl
      · refine key (W' := []) (o' := s.2.2.2.1) (e' := e) (Or.inl rfl) (stA_W (Or.inl rfl) h12).1 e1 ?_
        have e2 : ty e [] = some (List.replicate (0 + cW S2 + 1) true) := e2
        rw [Nat.zero_add] at e2
        exact e2
      · refine key (W' := []) (o' := s.2.2.2.1 ++ [(10, kI 0)]) (e' := e ++ [(10, kI 0)]) (Or.inl rfl) (stA_W (W := []) (Or.inl rfl) h12).2 (by rw [e1, List.append_assoc]) ?_
        exact em
      · refine key (W' := [11]) (o' := s.2.2.2.1) (e' := e) (Or.inr rfl) (stA_W (Or.inr rfl) h12).1 e1 ?_
        rw [cW_app]
        exact e2
      · refine key (W' := [11]) (o' := s.2.2.2.1 ++ [(10, kI 0)]) (e' := e ++ [(10, kI 0)]) (Or.inr rfl) (stA_W (W := [11]) (Or.inr rfl) h12).2 (by rw [e1, List.append_assoc]) ?_
        rw [cW_app]
        refine ty_app ⟨_, e2, ?_⟩
        rw [show cW [10, 11] + cW S2 + 1 = cW S2 + 1 + 2 by show 2 + cW S2 + 1 = _; omega, show cW [11] + cW S2 + 1 = cW S2 + 1 + 1 by show 1 + cW S2 + 1 = _; omega]
        exact ty_and (Or.inl rfl) (by omega) rfl
    · rw [if_neg t22] at hs
      by_cases t21 : T s.2.1 = kI 21
      · rw [if_pos t21] at hs
        right
        rw [hs]
        refine ⟨fun _ => ⟨⟨Or.inr (Or.inr (Or.inr ⟨rfl, h12⟩)), a2⟩, ?_, fun q => absurd q (by decide : ¬ (0 : Nat) = 1), e ++ sW W, ?_, ?_⟩, fun q => absurd q (by decide : ¬ (0 : Nat) = 2)⟩
        · show opn (11 :: S2) ≤ 8
          rw [opn_cons, if_neg (by decide)]
          exact b
        · show s.2.2.2.1 ++ sW W = _
          rw [e1, List.append_assoc]
        · show ty _ [] = some (List.replicate (cW (11 :: S2) + 0) true)
          rw [cW_cons, if_pos (by decide)]
          exact em
      · rw [if_neg t21] at hs
        by_cases n12 : ¬ 12 ∈ S2
        · rw [if_pos n12] at hs
          right
          rw [hs]
          have e0 : S2 = [] := by
            rcases h12 with q | ⟨R, q⟩
            · exact q
            · rw [q] at n12
              exact absurd List.mem_cons_self n12
          rw [e0] at em
          refine ⟨fun q => absurd q (by decide : ¬ ((2 : Nat) = 0 ∨ (2 : Nat) = 1)), fun _ => ⟨e ++ sW W, ?_, em⟩⟩
          show s.2.2.2.1 ++ sW W = _
          rw [e1, List.append_assoc]
        · rw [if_neg n12] at hs
          by_cases t41 : ¬ T s.2.1 = kI 41
          · rw [if_pos t41] at hs
            rw [hs]; exact Or.inl rfl
          · rw [if_neg t41] at hs
            right
            rw [hs]
            rcases h12 with q | ⟨R, q⟩
            · rw [q] at n12
              exact absurd List.not_mem_nil n12
            · rw [q] at a2 b em bw ⊢
              rw [opn_cons, if_pos (by decide)] at b
              rw [cW_cons, if_neg (by decide)] at em
              exact mI_stN (S := R) a2.2 (by omega) ⟨e ++ sW W, by rw [e1, List.append_assoc], em⟩
theorem mI_run (hV : ∀ k, T k = kI 100 → 0 ≤ (V k).toInt ∧ (V k).toInt < 10000) {o0 : List Cd} : ∀ {n : Nat} {s t : Sm}, mI o0 s → anS T V n s t → t.1 = 3 ∨ mI o0 t := by
  intro n
  induction n with
  | zero =>
    intro s t h hs
    have hs : s = t := hs
    rw [← hs]
    exact Or.inr h
  | succ n ih =>
    intro s t h hs
    obtain ⟨u, h1, h2⟩ := hs
    rcases mI_step hV h h1 with q | q
    · cases n with
      | zero =>
        have h2 : u = t := h2
        rw [← h2]
        exact Or.inl q
      | succ n =>
        obtain ⟨w, h3, _⟩ := h2
        exact absurd h3 (fin_no (Or.inr q))
    · exact ih q h2
theorem sR_ty (hV : ∀ k, T k = kI 100 → 0 ≤ (V k).toInt ∧ (V k).toInt < 10000) {k : Nat} {o : List Cd} {t : Sm} (h : sR T V (0, k, [], o, 0) t) (h2 : t.1 = 2) : ∃ e, t.2.2.2.1 = o ++ e ∧ ty e [] = some [true] := by
  obtain ⟨n, h⟩ := h
  have i0 : mI o (0, k, [], o, 0) := ⟨fun _ => ⟨trivial, Nat.zero_le _, fun q => absurd q (by decide : ¬ (0 : Nat) = 1), [], (List.append_nil o).symm, rfl⟩, fun q => absurd q (by decide : ¬ (0 : Nat) = 2)⟩
  rcases mI_run hV i0 h with q | q
  · omega
  · exact q.2 h2
/-! lines -/
theorem sl_1 {o e : List Cd} : sl (o ++ e) o.length (o ++ e).length = e := by
  unfold sl
  rw [List.take_length, List.drop_left]
theorem sl_2 {o e f : List Cd} {a : Nat} : sl (o ++ e) a o.length = sl o a o.length := by
  unfold sl
  rw [List.take_left, List.take_length]
theorem sl_more {o e : List Cd} {a b : Nat} (h : b ≤ o.length) : sl (o ++ e) a b = sl o a b := by
  unfold sl
  rw [List.take_append_of_le_length h]
theorem wfLn_more {o e : List Cd} {x : Ln} (h : wfLn o x) : wfLn (o ++ e) x := by
  obtain ⟨h1, h2, h3, h4, h5⟩ := h
  unfold wfLn
  rw [sl_more (by omega), sl_more h3, List.length_append]
  exact ⟨h1, h2, by omega, h4, h5⟩
theorem liR_ty (hV : ∀ k, T k = kI 100 → 0 ≤ (V k).toInt ∧ (V k).toInt < 10000) {k : Nat} {o : List Cd} {q : Rl} (h : liR T V k o q) (h0 : q.1 = 0) : ∃ ln e, q.2.2.2 = [ln] ∧ q.2.2.1 = o ++ e ∧ wfLn q.2.2.1 ln := by
  obtain ⟨r1, s1, h⟩ := h
  rcases h with ⟨a, e⟩ | ⟨a, h⟩
  · rw [e] at h0
    exact absurd h0 a
  · obtain ⟨e1, p1, t1⟩ := suS_ty hV s1 a
    have t1 := t1 [] (by decide)
    rcases h with ⟨b, h⟩ | ⟨b, t, st, h⟩
    · rcases h with ⟨_, e⟩ | ⟨_, e⟩
      · rw [e]
        refine ⟨_, e1, rfl, p1, ?_⟩
        show wfLn r1.2.2 _
        rw [p1]
        refine ⟨?_, Nat.le_refl _, Nat.le_refl _, ?_, Or.inl rfl⟩
        · show o.length ≤ (o ++ e1).length
          rw [List.length_append]; omega
        · show ty (sl (o ++ e1) o.length (o ++ e1).length) [] = _
          rw [sl_1]; exact t1
      · rw [e] at h0
        exact absurd h0 (by decide : ¬ (1 : Nat) = 0)
    · rcases h with ⟨t3, e⟩ | ⟨t2, h⟩
      · rw [e] at h0
        have h0 : t.2.2.2.2 = 0 := h0
        exfalso
        -- a fault is not 0
        obtain ⟨n, st⟩ := st
        have nz : ∀ {n : Nat} {s u : Sm}, anS T V n s u → s.1 ≠ 3 → u.1 = 3 → u.2.2.2.2 ≠ 0 := by
          intro n
          induction n with
          | zero =>
            intro s u hs h1 h2
            have hs : s = u := hs
            rw [hs] at h1
            exact absurd h2 h1
          | succ n ih =>
            intro s u hs h1 h2
            obtain ⟨w, w1, w2⟩ := hs
            by_cases w3 : w.1 = 3
            · have ew : w = u := by
                cases n with
                | zero => exact w2
                | succ n =>
                  obtain ⟨z, z1, _⟩ := w2
                  exact absurd z1 (fin_no (Or.inr w3))
              rw [← ew]
              rcases w1 with ⟨_, w1⟩ | ⟨_, w1⟩
              · rcases w1 with ⟨_, _, ht⟩ | ⟨_, _, ht⟩ | ⟨_, r, c, w1⟩
                · rw [ht]; exact (by decide : (3 : Nat) ≠ 0)
                · rw [ht] at w3; exact absurd w3 (by decide : ¬ (0 : Nat) = 3)
                · rcases w1 with ⟨r0, ht⟩ | ⟨r0, ht⟩
                  · rw [ht]; exact r0
                  · rw [ht] at w3; exact absurd w3 (by decide : ¬ (1 : Nat) = 3)
              · rw [w1] at w3 ⊢
                by_cases t22 : T s.2.1 = kI 22
                · rw [if_pos t22] at w3; exact absurd w3 (by decide : ¬ (0 : Nat) = 3)
                · rw [if_neg t22] at w3 ⊢
                  by_cases t21 : T s.2.1 = kI 21
                  · rw [if_pos t21] at w3; exact absurd w3 (by decide : ¬ (0 : Nat) = 3)
                  · rw [if_neg t21] at w3 ⊢
                    by_cases n12 : ¬ 12 ∈ (stO s.2.2.1 s.2.2.2.1).1
                    · rw [if_pos n12] at w3; exact absurd w3 (by decide : ¬ (2 : Nat) = 3)
                    · rw [if_neg n12] at w3 ⊢
                      by_cases t41 : ¬ T s.2.1 = kI 41
                      · rw [if_pos t41]; exact (by decide : (1 : Nat) ≠ 0)
                      · rw [if_neg t41] at w3; exact absurd w3 (by decide : ¬ (1 : Nat) = 3)
            · exact ih w2 w3 h2
        exact nz st (by decide : (0 : Nat) ≠ 3) t3 h0
      · obtain ⟨e2, p2, ht2⟩ := sR_ty hV st t2
        rcases h with ⟨_, e⟩ | ⟨_, e⟩
        · rw [e]
          refine ⟨_, e1 ++ e2, rfl, ?_, ?_⟩
          · show t.2.2.2.1 = _
            rw [p2, p1, List.append_assoc]
          · show wfLn t.2.2.2.1 _
            rw [p2]
            refine ⟨?_, ?_, Nat.le_refl _, ?_, Or.inr ?_⟩
            · show o.length ≤ r1.2.2.length
              rw [p1, List.length_append]; omega
            · show r1.2.2.length ≤ (r1.2.2 ++ e2).length
              rw [List.length_append]; omega
            · show ty (sl (r1.2.2 ++ e2) o.length r1.2.2.length) [] = _
              rw [sl_2 (f := []), p1, sl_1]
              exact t1
            · show ty (sl (r1.2.2 ++ e2) r1.2.2.length (r1.2.2 ++ e2).length) [] = _
              rw [sl_1]
              exact ht2
        · rw [e] at h0
          exact absurd h0 (by decide : ¬ (1 : Nat) = 0)
theorem laR_ty (hV : ∀ k, T k = kI 100 → 0 ≤ (V k).toInt ∧ (V k).toInt < 10000) : ∀ {m k : Nat} {o : List Cd} {r : Rl}, laR T V m k o r → r.1 = 0 → (∃ e, r.2.2.1 = o ++ e) ∧ wfLw r.2.2.1 r.2.2.2 ∧ r.2.2.2.length ≤ m := by
  intro m
  induction m with
  | zero =>
    intro k o r h h0
    rcases h with ⟨_, e⟩ | ⟨_, h⟩
    · rw [e]
      exact ⟨⟨[], (List.append_nil o).symm⟩, fun x hx => absurd hx List.not_mem_nil, Nat.zero_le _⟩
    · rcases h with ⟨_, e⟩ | ⟨_, e⟩
      · rw [e] at h0; exact absurd h0 (by decide : ¬ (1 : Nat) = 0)
      · rw [e] at h0; exact absurd h0 (by decide : ¬ (3 : Nat) = 0)
  | succ m ih =>
    intro k o r h h0
    rcases h with ⟨_, e⟩ | ⟨_, h⟩
    · rw [e]
      exact ⟨⟨[], (List.append_nil o).symm⟩, fun x hx => absurd hx List.not_mem_nil, Nat.zero_le _⟩
    · rcases h with ⟨_, e⟩ | ⟨_, q, hq, h⟩
      · rw [e] at h0; exact absurd h0 (by decide : ¬ (1 : Nat) = 0)
      · rcases h with ⟨q0, e⟩ | ⟨q0, r', hr, e⟩
        · rw [e] at h0; exact absurd h0 q0
        · obtain ⟨ln, e1, l1, l2, l3⟩ := liR_ty hV hq q0
          rw [e] at h0 ⊢
          obtain ⟨⟨e2, p2⟩, w2, n2⟩ := ih hr h0
          refine ⟨⟨e1 ++ e2, ?_⟩, ?_, ?_⟩
          · show r'.2.2.1 = _
            rw [p2, l2, List.append_assoc]
          · intro x hx
            show wfLn r'.2.2.1 x
            rcases List.mem_append.mp hx with hx | hx
            · rw [l1] at hx
              rw [List.mem_singleton.mp hx, p2]
              exact wfLn_more l3
            · exact w2 x hx
          · show (q.2.2.2 ++ r'.2.2.2).length ≤ m + 1
            rw [List.length_append, l1, List.length_singleton]
            omega
end TY
/-! sets as numbers: their bits, and how many -/
abbrev bt (x : Int32) (i : Nat) : Bool := x.toBitVec.getLsbD i
theorem bt_ext {x y : Int32} (h : ∀ i, i < 32 → bt x i = bt y i) : x = y := Int32.toBitVec.inj (BitVec.eq_of_getLsbD_eq h)
theorem bt_hi {x : Int32} {i : Nat} (h : 32 ≤ i) : bt x i = false := BitVec.getLsbD_of_ge _ _ h
theorem bt_and {x y : Int32} {i : Nat} : bt (x &&& y) i = (bt x i && bt y i) := BitVec.getLsbD_and
theorem bt_or {x y : Int32} {i : Nat} : bt (x ||| y) i = (bt x i || bt y i) := BitVec.getLsbD_or
theorem bt_xor {x y : Int32} {i : Nat} : bt (x ^^^ y) i = (bt x i ^^ bt y i) := BitVec.getLsbD_xor
theorem bt_m1 {i : Nat} (h : i < 32) : bt (kI (-1)) i = true := (by decide +kernel : ∀ i, i < 32 → bt (kI (-1)) i = true) i h
theorem bt_not {x : Int32} {i : Nat} (h : i < 32) : bt (x ^^^ kI (-1)) i = !bt x i := by
  rw [bt_xor, bt_m1 h, Bool.xor_true]
theorem bt_0 {i : Nat} : bt (kI 0) i = false := by
  by_cases h : i < 32
  · exact (by decide +kernel : ∀ i, i < 32 → bt (kI 0) i = false) i h
  · exact bt_hi (by omega)
theorem bt_1 {i : Nat} : bt (kI 1) i = decide (i = 0) := by
  by_cases h : i < 32
  · exact (by decide +kernel : ∀ i, i < 32 → bt (kI 1) i = decide (i = 0)) i h
  · rw [bt_hi (by omega), decide_eq_false (by omega)]
/-- 1 << p -/
theorem bt_sh {p : Int32} {k i : Nat} (hp : p.toInt = k) (hk : k < 32) : bt (kI 1 <<< (p &&& 31)) i = decide (i = k) := by
  rw [show p = kI (k : Nat) from kI_inj hp]
  by_cases h : i < 32
  · exact (by decide +kernel : ∀ k, k < 32 → ∀ i, i < 32 → bt (kI 1 <<< (kI (k : Nat) &&& 31)) i = decide (i = k)) k hk i h
  · rw [bt_hi (by omega), decide_eq_false (by omega)]
theorem sh_0 {p : Int32} : kI 0 <<< p = kI 0 := Int32.zero_shiftLeft
theorem usr_bv {x y : Int32} {k : Nat} (hy : y.toInt = k) (hk : k < 32) : (pUsr x y).toBitVec = x.toBitVec >>> k := by
  rw [show y = kI (k : Nat) from kI_inj hy]
  have e : ((kI (k : Nat)).toUInt32 &&& Int32.toUInt32 31).toBitVec % 32 = BitVec.ofNat 32 k := (by decide +kernel : ∀ k, k < 32 → ((kI (k : Nat)).toUInt32 &&& Int32.toUInt32 31).toBitVec % 32 = BitVec.ofNat 32 k) k hk
  show x.toBitVec >>> (((kI (k : Nat)).toUInt32 &&& Int32.toUInt32 31).toBitVec % 32) = _
  rw [e, BitVec.ushiftRight_eq', BitVec.toNat_ofNat, Nat.mod_eq_of_lt (by omega)]
theorem usr1 {x y : Int32} {k : Nat} (hy : y.toInt = k) (hk : k < 32) : (pUsr x y) &&& kI 1 = if bt x k = true then kI 1 else kI 0 := by
  refine bt_ext fun i hi => ?_
  rw [bt_and, bt_1]
  show ((pUsr x y).toBitVec.getLsbD i && _) = _
  rw [usr_bv hy hk, BitVec.getLsbD_ushiftRight]
  by_cases h : i = 0
  · subst h
    by_cases b : bt x k = true
    · have b' : x.toBitVec.getLsbD (k + 0) = true := b
      rw [if_pos b, b', bt_1]
      rfl
    · have b' : x.toBitVec.getLsbD (k + 0) = false := Bool.eq_false_iff.mpr b
      rw [if_neg b, b', bt_0]
      rfl
  · rw [decide_eq_false h, Bool.and_false]
    by_cases b : bt x k = true
    · rw [if_pos b, bt_1, decide_eq_false h]
    · rw [if_neg b, bt_0]
theorem f37_n {x y : Int32} {k : Nat} (hy : y.toInt = k) (hk : k < 32) : f_37 x y = 0 ↔ bt x k = false := by
  unfold f_37
  rw [usr1 hy hk]
  by_cases b : bt x k = true
  · rw [if_pos b, if_neg (nn rfl), b]
    exact ⟨fun q => absurd q (by decide), fun q => by cases q⟩
  · rw [if_neg b, if_pos (by decide)]
    exact ⟨fun _ => Bool.eq_false_iff.mpr b, fun _ => rfl⟩
theorem f37_y {x y : Int32} {k : Nat} (hy : y.toInt = k) (hk : k < 32) : ¬ f_37 x y = 0 ↔ bt x k = true := by
  rw [f37_n hy hk]
  cases bt x k <;> simp
/-! how many -/
def cN (p : Nat → Bool) : Nat → Nat
  | 0 => 0
  | n + 1 => cN p n + (if p n = true then 1 else 0)
theorem cN_cg {p q : Nat → Bool} : ∀ {n : Nat}, (∀ i, i < n → p i = q i) → cN p n = cN q n
  | 0, _ => rfl
  | n + 1, h => by
    show cN p n + _ = cN q n + _
    rw [cN_cg (n := n) (fun i hi => h i (by omega)), h n (by omega)]
theorem cN_le {p : Nat → Bool} : ∀ {n : Nat}, cN p n ≤ n
  | 0 => Nat.le_refl _
  | n + 1 => by
    show cN p n + (if p n = true then 1 else 0) ≤ n + 1
    have := cN_le (p := p) (n := n)
    split <;> omega
theorem cN_ext {p : Nat → Bool} {n m : Nat} (h : n ≤ m) (hp : ∀ i, n ≤ i → i < m → p i = false) : cN p m = cN p n := by
  obtain ⟨d, rfl⟩ := Nat.exists_eq_add_of_le h
  induction d with
  | zero => rfl
  | succ d ih =>
    show cN p (n + d) + (if p (n + d) = true then 1 else 0) = cN p n
    rw [ih (by omega) (fun i h1 h2 => hp i h1 (by omega)), hp (n + d) (by omega) (by omega)]
    rfl
theorem cN_front {p : Nat → Bool} : ∀ {n : Nat}, cN p (n + 1) = (if p 0 = true then 1 else 0) + cN (fun i => p (i + 1)) n
  | 0 => by
    show 0 + (if p 0 = true then 1 else 0) = (if p 0 = true then 1 else 0) + 0
    rw [Nat.zero_add, Nat.add_zero]
  | n + 1 => by
    show cN p (n + 1) + (if p (n + 1) = true then 1 else 0) = _
    rw [cN_front (n := n)]
    show _ = (if p 0 = true then 1 else 0) + (cN (fun i => p (i + 1)) n + (if p (n + 1) = true then 1 else 0))
    omega
/-! digits -/
def dm (B : Nat) (f : Nat → Nat) : Nat → Nat → Nat
  | 0, _ => 0
  | n + 1, X => f (X % B) + B * dm B f n (X / B)
def mkD (B m : Nat) : Nat → Nat
  | 0 => 0
  | n + 1 => m + B * mkD B m n
section DM
variable {B k m : Nat} {f g : Nat → Nat}
theorem dm_s {n X : Nat} : dm B f (n + 1) X = f (X % B) + B * dm B f n (X / B) := rfl
theorem dm_cg (hB : 0 < B) (h : ∀ d, d < B → f d = g d) : ∀ {n X : Nat}, dm B f n X = dm B g n X := by
  intro n
  induction n with
  | zero => intro X; rfl
  | succ n ih => intro X; rw [dm_s, dm_s, h _ (Nat.mod_lt _ hB), ih]
theorem dm_id (hB : 0 < B) : ∀ {n X : Nat}, X < B ^ n → dm B (fun d => d) n X = X := by
  intro n
  induction n with
  | zero =>
    intro X h
    rw [Nat.pow_zero] at h
    show 0 = X
    omega
  | succ n ih =>
    intro X h
    rw [dm_s, ih (Nat.div_lt_of_lt_mul (by rw [Nat.mul_comm, ← Nat.pow_succ]; exact h))]
    exact Nat.mod_add_div X B
theorem dm_add : ∀ {n X : Nat}, dm B f n X + dm B g n X = dm B (fun d => f d + g d) n X := by
  intro n
  induction n with
  | zero => intro X; rfl
  | succ n ih =>
    intro X
    rw [dm_s, dm_s, dm_s, ← ih, Nat.mul_add]
    omega
theorem dm_dm (hB : 0 < B) (h : ∀ d, d < B → f d < B) : ∀ {n X : Nat}, dm B g n (dm B f n X) = dm B (fun d => g (f d)) n X := by
  intro n
  induction n with
  | zero => intro X; rfl
  | succ n ih =>
    intro X
    have hf := h _ (Nat.mod_lt X hB)
    rw [dm_s (f := f), dm_s, dm_s, Nat.add_mul_mod_self_left, Nat.mod_eq_of_lt hf, Nat.add_mul_div_left _ _ hB, Nat.div_eq_of_lt hf, Nat.zero_add, ih]
theorem and_sp {a b c d : Nat} (hB : B = 2 ^ k) (ha : a < B) (hc : c < B) : (a + B * b) &&& (c + B * d) = (a &&& c) + B * (b &&& d) := by
  subst hB
  rw [Nat.add_comm a, Nat.add_comm c, Nat.add_comm (a &&& c)]
  have hac : a &&& c < 2 ^ k := Nat.and_lt_two_pow _ hc
  refine Nat.eq_of_testBit_eq fun i => ?_
  rw [Nat.testBit_and, Nat.testBit_two_pow_mul_add _ ha, Nat.testBit_two_pow_mul_add _ hc, Nat.testBit_two_pow_mul_add _ hac]
  by_cases h : i < k
  · simp only [if_pos h, Nat.testBit_and]
  · simp only [if_neg h, Nat.testBit_and]
theorem dm_and (hB : B = 2 ^ k) (hm : m < B) : ∀ {n X : Nat}, X &&& mkD B m n = dm B (fun d => d &&& m) n X := by
  have hB0 : 0 < B := by omega
  intro n
  induction n with
  | zero => intro X; exact Nat.and_zero X
  | succ n ih =>
    intro X
    rw [dm_s, ← ih, ← and_sp hB (Nat.mod_lt _ hB0) hm, Nat.mod_add_div]
    rfl
end DM
def pp2 (d : Nat) : Nat := d % 2 + d / 2
def pp4 (e : Nat) : Nat := pp2 (e % 4) + pp2 (e / 4)
def pp8 (e : Nat) : Nat := pp4 (e % 16) + pp4 (e / 16)
theorem sw1 {X : Nat} (hX : X < 4294967296) : (X / 2 &&& 1431655765) ≤ X ∧ X - (X / 2 &&& 1431655765) = dm 4 pp2 16 X := by
  have m : (1431655765 : Nat) = mkD 4 1 16 := by decide +kernel
  have sh : ∀ {n X : Nat}, dm 4 (fun d => d &&& 1) n (X / 2) = dm 4 (fun d => d / 2) n X := by
    intro n
    induction n with
    | zero => intro X; rfl
    | succ n ih =>
      intro X
      have e : (X / 2) % 4 &&& 1 = X % 4 / 2 := by
        rw [(by decide +kernel : ∀ d, d < 4 → d &&& 1 = d % 2) _ (Nat.mod_lt _ (by decide))]
        omega
      rw [dm_s, dm_s, show X / 2 / 4 = X / 4 / 2 by omega, ih, e]
  have a := sh (n := 16) (X := X)
  rw [← dm_and (k := 2) rfl (by decide), ← m] at a
  have b : dm 4 (fun d => d / 2) 16 X + dm 4 pp2 16 X = X := by
    rw [dm_add, dm_cg (g := fun d => d) (by decide) (fun d _ => by show d / 2 + pp2 d = d; unfold pp2; omega)]
    exact dm_id (by decide) (by have : (4 : Nat) ^ 16 = 4294967296 := by decide
                                omega)
  omega
theorem dm_grp4 {f : Nat → Nat} : ∀ {n X : Nat}, dm 4 f (2 * n) X = dm 16 (fun e => f (e % 4) + 4 * f (e / 4)) n X := by
  intro n
  induction n with
  | zero => intro X; rfl
  | succ n ih =>
    intro X
    show dm 4 f (2 * n + 1 + 1) X = _
    rw [dm_s, dm_s, dm_s, show X / 4 / 4 = X / 16 by omega, ih, show X % 16 % 4 = X % 4 by omega, show X % 16 / 4 = X / 4 % 4 by omega]
    omega
theorem dm_grp16 {f : Nat → Nat} : ∀ {n X : Nat}, dm 16 f (2 * n) X = dm 256 (fun e => f (e % 16) + 16 * f (e / 16)) n X := by
  intro n
  induction n with
  | zero => intro X; rfl
  | succ n ih =>
    intro X
    show dm 16 f (2 * n + 1 + 1) X = _
    rw [dm_s, dm_s, dm_s, show X / 16 / 16 = X / 256 by omega, ih, show X % 256 % 16 = X % 16 by omega, show X % 256 / 16 = X / 16 % 16 by omega]
    omega
theorem pp2_le : ∀ d, d < 4 → pp2 d ≤ 2 := by decide +kernel
theorem pp4_le : ∀ d, d < 16 → pp4 d ≤ 4 := by decide +kernel
theorem pp8_le : ∀ d, d < 256 → pp8 d ≤ 8 := by decide +kernel
theorem sw2 {X A : Nat} (hA : A = dm 4 pp2 16 X) : (A &&& 858993459) + (A / 4 &&& 858993459) = dm 16 pp4 8 X := by
  have m : (858993459 : Nat) = mkD 16 3 8 := by decide +kernel
  have a3 : ∀ d, d < 16 → d &&& 3 = d % 4 := by decide +kernel
  have sh : ∀ {n X : Nat}, dm 16 (fun d => d &&& 3) n (X / 4) = dm 16 (fun d => d / 4) n X := by
    intro n
    induction n with
    | zero => intro X; rfl
    | succ n ih =>
      intro X
      have e : (X / 4) % 16 &&& 3 = X % 16 / 4 := by
        rw [a3 _ (Nat.mod_lt _ (by decide))]
        omega
      rw [dm_s, dm_s, show X / 4 / 16 = X / 16 / 4 by omega, ih, e]
  rw [m, dm_and (k := 4) rfl (by decide), dm_and (k := 4) rfl (by decide), sh, dm_cg (g := fun d => d % 4) (by decide) (fun d hd => a3 d hd), dm_add, hA, show (16 : Nat) = 2 * 8 from rfl, dm_grp4]
  show dm 16 _ 8 (dm 16 _ 8 X) = _
  rw [dm_dm (by decide) (fun d hd => by have := pp2_le (d % 4) (by omega); have := pp2_le (d / 4) (by omega); show pp2 (d % 4) + 4 * pp2 (d / 4) < 16; omega)]
  refine dm_cg (by decide) (fun d hd => ?_)
  have := pp2_le (d % 4) (by omega)
  have := pp2_le (d / 4) (by omega)
  show (pp2 (d % 4) + 4 * pp2 (d / 4)) % 4 + (pp2 (d % 4) + 4 * pp2 (d / 4)) / 4 = pp4 d
  unfold pp4
  omega
theorem sw3 {X S : Nat} (hS : S = dm 16 pp4 8 X) : (S + S / 16) &&& 252645135 = dm 256 pp8 4 X := by
  have m : (252645135 : Nat) = mkD 256 15 4 := by decide +kernel
  have a15 : ∀ d, d < 256 → d &&& 15 = d % 16 := by decide +kernel
  have key : ∀ {n X : Nat}, (dm 256 (fun e => pp4 (e % 16) + 16 * pp4 (e / 16)) n X) % 16 ≤ 4 ∧ ((dm 256 (fun e => pp4 (e % 16) + 16 * pp4 (e / 16)) n X) + (dm 256 (fun e => pp4 (e % 16) + 16 * pp4 (e / 16)) n X) / 16) &&& mkD 256 15 n = dm 256 pp8 n X := by
    intro n
    induction n with
    | zero => intro X; exact ⟨by show 0 % 16 ≤ 4; omega, Nat.and_zero _⟩
    | succ n ih =>
      intro X
      obtain ⟨i1, i2⟩ := ih (X := X / 256)
      have b1 := pp4_le (X % 256 % 16) (by omega)
      have b2 := pp4_le (X % 256 / 16) (by omega)
      rw [dm_s, dm_s]
      generalize dm 256 (fun e => pp4 (e % 16) + 16 * pp4 (e / 16)) n (X / 256) = R at i1 i2 ⊢
      have e8 : pp8 (X % 256) = pp4 (X % 256 % 16) + pp4 (X % 256 / 16) := rfl
      rw [e8]
      generalize pp4 (X % 256 % 16) = a at b1 ⊢
      generalize pp4 (X % 256 / 16) = b at b2 ⊢
      refine ⟨by omega, ?_⟩
      show _ &&& (15 + 256 * mkD 256 15 n) = _
      rw [show a + 16 * b + 256 * R + (a + 16 * b + 256 * R) / 16 = (a + 16 * b + b + 16 * (R % 16)) + 256 * (R + R / 16) by omega, and_sp (k := 8) rfl (by omega) (by decide), i2, a15 _ (by omega)]
      omega
  rw [hS, show (8 : Nat) = 2 * 4 from rfl, dm_grp16, m]
  exact key.2
def cnt : Nat → Nat → Nat
  | 0, _ => 0
  | n + 1, X => X % 2 + cnt n (X / 2)
theorem cnt_8 : ∀ e, e < 256 → pp8 e = cnt 8 e := by decide +kernel
theorem cnt_sp {n X : Nat} : cnt (n + 8) X = cnt 8 (X % 256) + cnt n (X / 256) := by
  have e1 : cnt (n + 8) X = X % 2 + (X / 2 % 2 + (X / 2 / 2 % 2 + (X / 2 / 2 / 2 % 2 + (X / 2 / 2 / 2 / 2 % 2 + (X / 2 / 2 / 2 / 2 / 2 % 2 + (X / 2 / 2 / 2 / 2 / 2 / 2 % 2 + (X / 2 / 2 / 2 / 2 / 2 / 2 / 2 % 2 + cnt n (X / 2 / 2 / 2 / 2 / 2 / 2 / 2 / 2)))))))) := rfl
  have e2 : ∀ Y, cnt 8 Y = Y % 2 + (Y / 2 % 2 + (Y / 2 / 2 % 2 + (Y / 2 / 2 / 2 % 2 + (Y / 2 / 2 / 2 / 2 % 2 + (Y / 2 / 2 / 2 / 2 / 2 % 2 + (Y / 2 / 2 / 2 / 2 / 2 / 2 % 2 + (Y / 2 / 2 / 2 / 2 / 2 / 2 / 2 % 2 + 0))))))) := fun _ => rfl
  rw [e1, e2, show X / 2 / 2 / 2 / 2 / 2 / 2 / 2 / 2 = X / 256 by omega]
  omega
theorem cnt_cN : ∀ {n X : Nat}, cN (fun i => X.testBit i) n = cnt n X
  | 0, _ => rfl
  | n + 1, X => by
    rw [cN_front]
    have e : (fun i => X.testBit (i + 1)) = fun i => (X / 2).testBit i := funext fun i => Nat.testBit_succ X i
    show (if X.testBit 0 = true then 1 else 0) + cN (fun i => X.testBit (i + 1)) n = X % 2 + cnt n (X / 2)
    rw [e, cnt_cN, Nat.testBit_zero]
    by_cases h : X % 2 = 1
    · rw [decide_eq_true h, if_pos rfl, h]
    · rw [decide_eq_false h, if_neg (by decide)]
      omega
theorem sw4 {e0 e1 e2 e3 C D E : Nat} (h0 : e0 ≤ 8) (h1 : e1 ≤ 8) (h2 : e2 ≤ 8) (h3 : e3 ≤ 8) (hC : C = e0 + 256 * (e1 + 256 * (e2 + 256 * (e3 + 256 * 0)))) (hD : D = C + C / 256) (hE : E = D + D / 65536) : E % 64 = e0 + (e1 + (e2 + e3)) := by
  have c1 : C / 256 = e1 + 256 * e2 + 65536 * e3 := by omega
  have d0 : D = (e0 + e1) + 256 * (e1 + e2) + 65536 * (e2 + e3) + 16777216 * e3 := by omega
  have d1 : D / 65536 = (e2 + e3) + 256 * e3 := by omega
  have e : E = (e0 + e1 + e2 + e3) + 256 * ((e1 + e2 + e3) + 256 * (e2 + e3) + 65536 * e3) := by omega
  omega
theorem f239_n {x : Int32} : f_239 x = kI ((cN (bt x) 32 : Nat) : Int) := by
  have n2 : ∀ {a b : Int32}, (a &&& b).toBitVec.toNat = a.toBitVec.toNat &&& b.toBitVec.toNat := fun {a b} => BitVec.toNat_and a.toBitVec b.toBitVec
  have us : ∀ {a : Int32} (k : Nat), k < 32 → (pUsr a (kI (k : Nat))).toBitVec.toNat = a.toBitVec.toNat / 2 ^ k := fun {a} k hk => by
    rw [usr_bv (k := k) (kI_toInt (by omega) (by omega)) hk, BitVec.toNat_ushiftRight, Nat.shiftRight_eq_div_pow]
  have us1 : ∀ {a : Int32}, (pUsr a (kI 1)).toBitVec.toNat = a.toBitVec.toNat / 2 := fun {a} => us (a := a) 1 (by decide)
  have us2 : ∀ {a : Int32}, (pUsr a (kI 2)).toBitVec.toNat = a.toBitVec.toNat / 4 := fun {a} => us (a := a) 2 (by decide)
  have m1 : (kI 1431655765).toBitVec.toNat = 1431655765 := by decide
  have m2 : (kI 858993459).toBitVec.toNat = 858993459 := by decide
  have m3 : (kI 252645135).toBitVec.toNat = 252645135 := by decide
  have m4 : (kI 63).toBitVec.toNat = 63 := by decide
  have ad : ∀ {a b : Int32}, a.toBitVec.toNat + b.toBitVec.toNat < 4294967296 → (a + b).toBitVec.toNat = a.toBitVec.toNat + b.toBitVec.toNat := fun {a b} h => BitVec.toNat_add_of_lt (x := a.toBitVec) (y := b.toBitVec) h
  have sb : ∀ {a b : Int32}, b.toBitVec.toNat ≤ a.toBitVec.toNat → (a - b).toBitVec.toNat = a.toBitVec.toNat - b.toBitVec.toNat := fun {a b} h => BitVec.toNat_sub_of_le (x := a.toBitVec) (y := b.toBitVec) h
  have hX := x.toBitVec.isLt
  unfold f_239
  generalize hA : x - ((pUsr x (kI 1)) &&& (kI 1431655765)) = A
  generalize hB : (A &&& (kI 858993459)) + ((pUsr A (kI 2)) &&& (kI 858993459)) = B
  generalize hC : (B + (pUsr B (kI 4))) &&& (kI 252645135) = C
  generalize hD : C + (pUsr C (kI 8)) = D
  generalize hE : D + (pUsr D (kI 16)) = E
  generalize hx : x.toBitVec.toNat = X at hX
  have hX : X < 4294967296 := hX
  obtain ⟨s1, s1'⟩ := sw1 hX
  have qA : A.toBitVec.toNat = dm 4 pp2 16 X := by
    have e : ((pUsr x (kI 1)) &&& (kI 1431655765)).toBitVec.toNat = X / 2 &&& 1431655765 := by
      rw [n2, us1, hx, m1]
    rw [← hA, sb (by rw [e, hx]; exact s1), e, hx]
    exact s1'
  have s2 := sw2 qA
  have b2 : dm 16 pp4 8 X < 268435456 * 5 := by
    have h : ∀ Y, pp4 (Y % 16) ≤ 4 := fun Y => pp4_le _ (Nat.mod_lt _ (by decide))
    have e : dm 16 pp4 8 X = pp4 (X % 16) + 16 * (pp4 (X / 16 % 16) + 16 * (pp4 (X / 16 / 16 % 16) + 16 * (pp4 (X / 16 / 16 / 16 % 16) + 16 * (pp4 (X / 16 / 16 / 16 / 16 % 16) + 16 * (pp4 (X / 16 / 16 / 16 / 16 / 16 % 16) + 16 * (pp4 (X / 16 / 16 / 16 / 16 / 16 / 16 % 16) + 16 * (pp4 (X / 16 / 16 / 16 / 16 / 16 / 16 / 16 % 16) + 16 * 0))))))) := rfl
    rw [e]
    have h0 := h X
    have h1 := h (X / 16)
    have h2 := h (X / 16 / 16)
    have h3 := h (X / 16 / 16 / 16)
    have h4 := h (X / 16 / 16 / 16 / 16)
    have h5 := h (X / 16 / 16 / 16 / 16 / 16)
    have h6 := h (X / 16 / 16 / 16 / 16 / 16 / 16)
    have h7 := h (X / 16 / 16 / 16 / 16 / 16 / 16 / 16)
    omega
  have qB : B.toBitVec.toNat = dm 16 pp4 8 X := by
    have e1 : (A &&& (kI 858993459)).toBitVec.toNat = A.toBitVec.toNat &&& 858993459 := by rw [n2, m2]
    have e2 : ((pUsr A (kI 2)) &&& (kI 858993459)).toBitVec.toNat = A.toBitVec.toNat / 4 &&& 858993459 := by
      rw [n2, us2, m2]
    rw [← hB, ad (by rw [e1, e2, s2]; omega), e1, e2, s2]
  have s3 := sw3 qB
  have qC : C.toBitVec.toNat = dm 256 pp8 4 X := by
    have e2 : (pUsr B (kI 4)).toBitVec.toNat = B.toBitVec.toNat / 16 := us 4 (by decide)
    rw [← hC, n2, ad (by rw [e2, qB]; omega), e2, m3]
    exact s3
  have h : ∀ Y, pp8 (Y % 256) ≤ 8 := fun Y => pp8_le _ (Nat.mod_lt _ (by decide))
  have eC : dm 256 pp8 4 X = pp8 (X % 256) + 256 * (pp8 (X / 256 % 256) + 256 * (pp8 (X / 256 / 256 % 256) + 256 * (pp8 (X / 256 / 256 / 256 % 256) + 256 * 0))) := rfl
  have h0 := h X
  have h1 := h (X / 256)
  have h2 := h (X / 256 / 256)
  have h3 := h (X / 256 / 256 / 256)
  have ec : cN (bt x) 32 = pp8 (X % 256) + (pp8 (X / 256 % 256) + (pp8 (X / 256 / 256 % 256) + pp8 (X / 256 / 256 / 256 % 256))) := by
    have e0 : cN (bt x) 32 = cnt 32 X := by
      rw [← cnt_cN, ← hx]
      rfl
    have hz : X / 256 / 256 / 256 % 256 = X / 256 / 256 / 256 := by omega
    have c32 : cnt 32 X = cnt 8 (X % 256) + cnt 24 (X / 256) := cnt_sp
    have c24 : cnt 24 (X / 256) = cnt 8 (X / 256 % 256) + cnt 16 (X / 256 / 256) := cnt_sp
    have c16 : cnt 16 (X / 256 / 256) = cnt 8 (X / 256 / 256 % 256) + cnt 8 (X / 256 / 256 / 256) := cnt_sp
    rw [e0, c32, c24, c16, cnt_8 (X % 256) (Nat.mod_lt _ (by decide)), cnt_8 (X / 256 % 256) (Nat.mod_lt _ (by decide)), cnt_8 (X / 256 / 256 % 256) (Nat.mod_lt _ (by decide)), hz, cnt_8 (X / 256 / 256 / 256) (by omega)]
  rw [eC] at qC
  have qD : D.toBitVec.toNat = C.toBitVec.toNat + C.toBitVec.toNat / 256 := by
    have e2 : (pUsr C (kI 8)).toBitVec.toNat = C.toBitVec.toNat / 256 := us 8 (by decide)
    rw [← hD, ad (by rw [e2]; omega), e2]
  have qE : E.toBitVec.toNat = D.toBitVec.toNat + D.toBitVec.toNat / 65536 := by
    have e2 : (pUsr D (kI 16)).toBitVec.toNat = D.toBitVec.toNat / 65536 := us 16 (by decide)
    rw [← hE, ad (by rw [e2]; omega), e2]
  have q : (E &&& kI 63).toBitVec.toNat = cN (bt x) 32 := by
    have e1 : (E &&& kI 63).toBitVec.toNat = E.toBitVec.toNat % 64 := by
      rw [n2, m4]
      exact Nat.and_two_pow_sub_one_eq_mod E.toBitVec.toNat 6
    rw [e1, ec]
    exact sw4 h0 h1 h2 h3 qC qD qE
  refine kI_inj ?_
  have le := cN_le (p := bt x) (n := 32)
  have t : (E &&& kI 63).toBitVec.toInt = ((E &&& kI 63).toBitVec.toNat : Int) := BitVec.toInt_eq_toNat_of_lt (by rw [q]; omega)
  show (E &&& kI 63).toBitVec.toInt = _
  rw [t, q]
/-! sums of numbers that wrap -/
def sm (f : Nat → Int32) : Nat → Int32
  | 0 => 0
  | n + 1 => sm f n + f n
section SM
variable {f g : Nat → Int32}
theorem sm_s {n : Nat} : sm f (n + 1) = sm f n + f n := rfl
theorem sm_cg : ∀ {n : Nat}, (∀ i, i < n → f i = g i) → sm f n = sm g n
  | 0, _ => rfl
  | n + 1, h => by rw [sm_s, sm_s, sm_cg (n := n) (fun i hi => h i (by omega)), h n (by omega)]
theorem sm_0 : ∀ {n : Nat}, (∀ i, i < n → f i = 0) → sm f n = 0
  | 0, _ => rfl
  | n + 1, h => by rw [sm_s, sm_0 (n := n) (fun i hi => h i (by omega)), h n (by omega), Int32.add_zero]
theorem sm_ext {n m : Nat} (h : n ≤ m) (hp : ∀ i, n ≤ i → i < m → f i = 0) : sm f m = sm f n := by
  obtain ⟨d, rfl⟩ := Nat.exists_eq_add_of_le h
  induction d with
  | zero => rfl
  | succ d ih =>
    show sm f (n + d) + f (n + d) = sm f n
    rw [ih (by omega) (fun i h1 h2 => hp i h1 (by omega)), hp (n + d) (by omega) (by omega), Int32.add_zero]
theorem sm_add : ∀ {n : Nat}, sm (fun i => f i + g i) n = sm f n + sm g n
  | 0 => (Int32.add_zero 0).symm
  | n + 1 => by
    rw [sm_s, sm_s, sm_s, sm_add]
    rw [Int32.add_assoc, Int32.add_assoc, ← Int32.add_assoc (sm g n), ← Int32.add_assoc (f n), Int32.add_comm (sm g n) (f n)]
theorem sm_sub : ∀ {n : Nat}, sm (fun i => f i - g i) n = sm f n - sm g n
  | 0 => (Int32.sub_self 0).symm
  | n + 1 => by
    rw [sm_s, sm_s, sm_s, sm_sub]
    rw [Int32.sub_eq_add_neg, Int32.sub_eq_add_neg, Int32.sub_eq_add_neg, Int32.neg_add, Int32.sub_eq_add_neg]
    rw [Int32.add_assoc, Int32.add_assoc, ← Int32.add_assoc (-sm g n), ← Int32.add_assoc (f n), Int32.add_comm (-sm g n) (f n)]
theorem sm_mul {c : Int32} : ∀ {n : Nat}, sm (fun i => c * f i) n = c * sm f n
  | 0 => Int32.mul_zero.symm
  | n + 1 => by rw [sm_s, sm_s, sm_mul, Int32.mul_add]
theorem sm_one {k : Nat} {x : Int32} : ∀ {n : Nat}, sm (fun i => if i = k then x else 0) n = if k < n then x else 0
  | 0 => by rw [if_neg (by omega)]; rfl
  | n + 1 => by
    rw [sm_s, sm_one]
    by_cases h : k < n
    · rw [if_pos h, if_neg (by omega), if_pos (by omega), Int32.add_zero]
    · rw [if_neg h]
      by_cases e : n = k
      · rw [if_pos e, if_pos (by omega), Int32.zero_add]
      · rw [if_neg e, if_neg (by omega), Int32.add_zero]
end SM
theorem kI_n1 {a b : Nat} : kI ((a + b : Nat) : Int) = kI (a : Nat) + kI (b : Nat) := by
  show Int32.ofInt ((a + b : Nat) : Int) = _
  rw [Int.natCast_add, Int32.ofInt_add]
theorem kI_nm {a b : Nat} : kI ((a * b : Nat) : Int) = kI (a : Nat) * kI (b : Nat) := by
  show Int32.ofInt ((a * b : Nat) : Int) = _
  rw [Int.natCast_mul, Int32.ofInt_mul]
theorem sm_cN {p : Nat → Bool} : ∀ {n : Nat}, sm (fun i => if p i = true then kI 1 else 0) n = kI ((cN p n : Nat) : Int)
  | 0 => rfl
  | n + 1 => by
    show sm _ n + (if p n = true then kI 1 else 0) = kI ((cN p n + (if p n = true then 1 else 0) : Nat) : Int)
    rw [sm_cN, kI_n1]
    by_cases h : p n = true
    · rw [if_pos h, if_pos h]
      rfl
    · rw [if_neg h, if_neg h]
      rfl
/-- over couples -/
def s2 (c : Nat → Nat → Bool) (g : Nat → Nat → Int32) (n : Nat) : Int32 := sm (fun i => sm (fun j => if c i j = true then g i j else 0) n) n
section S2
variable {c d : Nat → Nat → Bool} {g h : Nat → Nat → Int32} {n m : Nat}
theorem s2_cg (hc : ∀ i j, i < n → j < n → c i j = d i j) (hg : ∀ i j, i < n → j < n → c i j = true → g i j = h i j) : s2 c g n = s2 d h n := by
  refine sm_cg fun i hi => sm_cg fun j hj => ?_
  rw [← hc i j hi hj]
  by_cases e : c i j = true
  · rw [if_pos e, if_pos e, hg i j hi hj e]
  · rw [if_neg e, if_neg e]
theorem s2_ext (hn : n ≤ m) (hc : ∀ i j, i < m → j < m → (n ≤ i ∨ n ≤ j) → c i j = false) : s2 c g m = s2 c g n := by
  unfold s2
  rw [sm_ext (n := n) (m := m) hn (fun i h1 h2 => sm_0 fun j hj => by rw [hc i j h2 hj (Or.inl h1)]; rfl)]
  refine sm_cg fun i hi => sm_ext hn (fun j h1 h2 => by rw [hc i j (by omega) h2 (Or.inr h1)]; rfl)
/-- two kinds of couples apart -/
theorem s2_or (hd : ∀ i j, i < n → j < n → ¬ (c i j = true ∧ d i j = true)) : s2 (fun i j => c i j || d i j) g n = s2 c g n + s2 d g n := by
  unfold s2
  rw [← sm_add]
  refine sm_cg fun i hi => ?_
  rw [← sm_add]
  refine sm_cg fun j hj => ?_
  have q := hd i j hi hj
  show (if (c i j || d i j) = true then g i j else 0) = (if c i j = true then g i j else 0) + (if d i j = true then g i j else 0)
  cases hc : c i j <;> cases he : d i j
  · exact (Int32.add_zero 0).symm
  · exact (Int32.zero_add _).symm
  · exact (Int32.add_zero _).symm
  · exact absurd ⟨hc, he⟩ q
/-- a count of couples is no more than n times n -/
theorem s2_n : ∃ k : Nat, k ≤ n * n ∧ s2 c (fun _ _ => kI 1) n = kI (k : Nat) := by
  have key : ∀ m, ∃ k : Nat, k ≤ m * n ∧ sm (fun i => sm (fun j => if c i j = true then kI 1 else 0) n) m = kI (k : Nat) := by
    intro m
    induction m with
    | zero => exact ⟨0, Nat.zero_le _, rfl⟩
    | succ m ih =>
      obtain ⟨k, h1, h2⟩ := ih
      refine ⟨k + cN (fun j => c m j) n, ?_, ?_⟩
      · have := cN_le (p := fun j => c m j) (n := n)
        rw [Nat.succ_mul]
        omega
      · rw [sm_s, h2, sm_cN, kI_n1]
  exact key n
end S2
/-- of two sets -/
def cS (A B : Nat → Bool) (i j : Nat) : Bool := A i && (B j && !decide (i = j))
theorem cS_count {A B : Nat → Bool} {n : Nat} : s2 (cS A B) (fun _ _ => kI 1) n = kI (cN A n : Nat) * kI (cN B n : Nat) - kI (cN (fun i => A i && B i) n : Nat) := by
  have e : s2 (cS A B) (fun _ _ => kI 1) n = sm (fun i => kI (cN B n : Nat) * (if A i = true then kI 1 else 0) - (if (A i && B i) = true then kI 1 else 0)) n := by
    refine sm_cg fun i hi => ?_
    cases hA : A i with
    | false =>
      rw [if_neg (by decide), Int32.mul_zero]
      rw [show (if (false && B i) = true then kI 1 else 0) = (0 : Int32) from rfl, Int32.sub_zero]
      refine sm_0 fun j _ => ?_
      unfold cS
      rw [hA]
      rfl
    | true =>
      rw [if_pos rfl]
      have q : sm (fun j => if cS A B i j = true then kI 1 else 0) n = sm (fun j => (if B j = true then kI 1 else 0) - (if j = i then (if B i = true then kI 1 else 0) else 0)) n := by
        refine sm_cg fun j _ => ?_
        unfold cS
        rw [hA]
        by_cases h : j = i
        · subst h
          rw [if_pos rfl, Int32.sub_self, if_neg]
          rw [decide_eq_true rfl]
          cases B j <;> decide
        · rw [if_neg h, Int32.sub_zero, decide_eq_false (fun e => h e.symm)]
          cases B j <;> rfl
      rw [q, sm_sub, sm_cN, sm_one, if_pos hi]
      show kI (cN B n : Nat) - _ = kI (cN B n : Nat) * 1 - _
      rw [Int32.mul_one]
      cases B i <;> rfl
  rw [e, sm_sub, sm_mul, sm_cN, sm_cN, Int32.mul_comm]
/-! the mean, downwards -/
theorem x_neg {x y : Int32} (hy : 0 < y.toInt) : (x ^^^ y) < 0 ↔ x.toInt < 0 := by
  rw [i_lt, i_0]
  have a : ∀ z : Int32, z.toInt < 0 ↔ z.toBitVec.msb = true := fun z => by
    rw [BitVec.msb_eq_toInt, decide_eq_true_iff]
    exact Iff.rfl
  rw [a, a]
  have hb : y.toBitVec.msb = false := by
    cases e : y.toBitVec.msb with
    | false => rfl
    | true =>
      have := (a y).mpr e
      omega
  show (x.toBitVec ^^^ y.toBitVec).msb = true ↔ _
  rw [BitVec.msb_xor, hb, Bool.xor_false]
theorem pRem_0 {x y : Int32} : pRem x y = 0 ↔ x / y * y = x := by
  unfold pRem
  rw [Int32.sub_eq_iff_eq_add, Int32.zero_add]
  exact ⟨fun h => h.symm, fun h => h.symm⟩
theorem fd_43 {x y : Int32} (hy : 0 < y.toInt) : pFd x y = f_43 x y := by
  unfold pFd f_43
  rw [if_pos (show ¬ y = 0 from fun e => by rw [e, i_0] at hy; omega)]
  by_cases h : (x ^^^ y) < 0
  · rw [if_pos h]
    have hx := (x_neg hy).mp h
    by_cases r : x / y * y = x
    · rw [if_pos r, if_pos (pRem_0.mpr r)]
    · rw [if_neg r, if_neg (fun q => r (pRem_0.mp q)), if_neg (by rw [i_le, i_0]; omega)]
      rfl
  · rw [if_neg h]
    have hx : ¬ x.toInt < 0 := fun q => h ((x_neg (x := x) hy).mpr q)
    by_cases r : pRem x y = 0
    · rw [if_pos r]
    · rw [if_neg r, if_pos (by rw [i_le, i_0]; omega)]
theorem f38_43 {x y : Int32} (hy : 0 ≤ y.toInt) : f_38 x y = f_43 x y := by
  unfold f_38
  by_cases h : y ≤ 0
  · rw [if_pos h]
    rw [i_le, i_0] at h
    have e : y = 0 := by rw [i_eq, i_0]; omega
    unfold f_43
    rw [if_neg (nn e)]
  · rw [if_neg h]
    rw [i_le, i_0] at h
    exact fd_43 (by omega)
/-- the mean of what g says of the couples of two sets -/
def mnS (A B : Nat → Bool) (g : Nat → Nat → Int32) : Int32 := f_43 (s2 (cS A B) g 24) (s2 (cS A B) (fun _ _ => kI 1) 24)
theorem mnS_cg {A B A' B' : Nat → Bool} {g h : Nat → Nat → Int32} (hA : ∀ i, i < 24 → A i = A' i) (hB : ∀ i, i < 24 → B i = B' i) (hg : ∀ i j, i < 24 → j < 24 → g i j = h i j) : mnS A B g = mnS A' B' h := by
  have hc : ∀ i j, i < 24 → j < 24 → cS A B i j = cS A' B' i j := fun i j hi hj => by
    unfold cS
    rw [hA i hi, hB j hj]
  unfold mnS
  rw [s2_cg (h := h) hc (fun i j hi hj _ => hg i j hi hj), s2_cg (g := fun _ _ => kI 1) (h := fun _ _ => kI 1) hc (fun _ _ _ _ _ => rfl)]
/-- of all that are of two sets, either way -/
def crS (A B : Nat → Bool) (g : Nat → Nat → Int32) : Int32 := f_43 (s2 (cS A B) g 24 + s2 (cS B A) g 24) (kI 2 * kI (cN A 24 : Nat) * kI (cN B 24 : Nat))
theorem ix24 {x y : Int32} {i j : Nat} (hx : x.toInt = i) (hy : y.toInt = j) (hi : i < 24) (hj : j < 24) : ix (x * kI 24 + y) = 24 * i + j ∧ ix (kI 24 * x + y) = 24 * i + j := by
  have e : (kI 24 * x).toInt = 24 * i := by rw [i_mul (by rw [hx, kI_toInt (by decide) (by decide)]; omega) (by rw [hx, kI_toInt (by decide) (by decide)]; omega), hx, kI_toInt (by decide) (by decide)]
  have e2 : (kI 24 * x + y).toInt = ((24 * i + j : Nat) : Int) := by rw [i_add (by rw [e, hy]; omega) (by rw [e, hy]; omega), e, hy]; omega
  exact ⟨by rw [Int32.mul_comm]; exact ix_of e2, ix_of e2⟩
theorem n_add1 {x : Int32} {i : Nat} (h : x.toInt = i) (hi : i ≤ 1000000) : (x + kI 1).toInt = ((i + 1 : Nat) : Int) := by
  rw [i_add1 (by omega), h]
  omega
/-! the class's sums -/
def lkW (M : pMem) (w : Nat) (i j : Nat) : Int32 := M (w + 3) (24 * i + j)
def gW (M : pMem) (w : Nat) (p1 p2 : Int32) (i j : Nat) : Int32 := if cS (bt p1) (bt p2) i j = true then lkW M w i j else 0
theorem gW_0 {M : pMem} {w : Nat} {p1 p2 : Int32} {i j : Nat} (h : bt p1 i = false ∨ bt p2 j = false ∨ i = j) : gW M w p1 p2 i j = 0 := by
  unfold gW cS
  rcases h with h | h | h
  · rw [h]; rfl
  · rw [h, Bool.false_and, Bool.and_false]; rfl
  · rw [decide_eq_true h, Bool.not_true, Bool.and_false, Bool.and_false]; rfl
theorem D_232_w {w : Nat} {p1 p2 : Int32} {M v N} (h : D_232 w p1 p2 M v N) : v = s2 (cS (bt p1) (bt p2)) (lkW M w) 24 ∧ N = M := by
  have q := h (fun x3 x4 M' v N => ∀ i : Nat, x4.toInt = i → i ≤ 24 → M' = M → x3 = sm (fun i => sm (gW M w p1 p2 i) 24) i → v = sm (fun i => sm (gW M w p1 p2 i) 24) 24 ∧ N = M,
    fun x3 x4 x5 M' v N => ∀ i j : Nat, x4.toInt = i → x5.toInt = j → i < 24 → j ≤ 24 → M' = M → x3 = sm (fun i => sm (gW M w p1 p2 i) 24) i + sm (gW M w p1 p2 i) j → v = sm (fun i => sm (gW M w p1 p2 i) 24) 24 ∧ N = M) ⟨?_, ?_⟩
  · exact q 0 rfl (Nat.zero_le _) rfl rfl
  · intro x3 x4 M' v N hs i hi hi24 hM hx
    rcases hs with ⟨g, hv, hN⟩ | ⟨g, hs⟩
    · rw [i_le, hi, kI_toInt (by decide) (by decide)] at g
      have e : i = 24 := by omega
      rw [hv, hN, hM, hx, e]
      exact ⟨rfl, rfl⟩
    · rw [i_le, hi, kI_toInt (by decide) (by decide)] at g
      exact hs i 0 hi rfl (by omega) (Nat.zero_le _) hM (by rw [hx]; exact (Int32.add_zero _).symm)
  · intro x3 x4 x5 M' v N hs i j hi hj hi24 hj24 hM hx
    rcases hs with ⟨g, hs⟩ | ⟨g, hs⟩
    · have g := (f37_n hi (by omega)).mp g
      refine hs (i + 1) (n_add1 hi (by omega)) (by omega) hM ?_
      rw [hx, sm_s, sm_0 (fun k _ => gW_0 (Or.inl g)), sm_0 (fun k _ => gW_0 (Or.inl g))]
    · have g := (f37_y hi (by omega)).mp g
      rcases hs with ⟨g2, hs⟩ | ⟨g2, hs⟩
      · rw [i_le, hj, kI_toInt (by decide) (by decide)] at g2
        refine hs (i + 1) (n_add1 hi (by omega)) (by omega) hM ?_
        have e : j = 24 := by omega
        rw [hx, e]
        rfl
      · rw [i_le, hj, kI_toInt (by decide) (by decide)] at g2
        have step : ∀ {y : Int32}, y = x3 + gW M w p1 p2 i j → y = sm (fun i => sm (gW M w p1 p2 i) 24) i + sm (gW M w p1 p2 i) (j + 1) := fun e => by rw [e, hx, sm_s, Int32.add_assoc]
        rcases hs with ⟨g3, hs⟩ | ⟨g3, hs⟩
        · refine hs i (j + 1) hi (n_add1 hj (by omega)) hi24 (by omega) hM (step ?_)
          rw [gW_0 (Or.inr (Or.inr (by rw [i_eq, hi, hj] at g3; omega))), Int32.add_zero]
        · rcases hs with ⟨g4, hs⟩ | ⟨g4, _, hs⟩
          · have g4 := (f37_n hj (by omega)).mp g4
            refine hs i (j + 1) hi (n_add1 hj (by omega)) hi24 (by omega) hM (step ?_)
            rw [gW_0 (Or.inr (Or.inl g4)), Int32.add_zero]
          · have g4 := (f37_y hj (by omega)).mp g4
            refine hs i (j + 1) hi (n_add1 hj (by omega)) hi24 (by omega) hM (step ?_)
            have ne : ¬ i = j := fun e => g3 (by rw [i_eq, hi, hj, e])
            have c : cS (bt p1) (bt p2) i j = true := by
              unfold cS
              rw [g, g4, decide_eq_false ne]
              rfl
            rw [(ix24 hi hj hi24 (by omega)).1, hM]
            unfold gW
            rw [if_pos c]
            rfl
/-- a set of boys has no bits beyond -/
def nb (x : Int32) : Prop := ∀ i, 24 ≤ i → bt x i = false
theorem nb_and {x y : Int32} (h : nb x) : nb (x &&& y) := fun i hi => by rw [bt_and, h i hi, Bool.false_and]
theorem f239_24 {x : Int32} (h : nb x) : f_239 x = kI (cN (bt x) 24 : Nat) := by
  rw [f239_n, cN_ext (n := 24) (m := 32) (by decide) (fun i h1 _ => h i h1)]
theorem D_231_w {w : Nat} {p1 p2 : Int32} (h1 : nb p1) (h2 : nb p2) {M v N} (h : D_231 w p1 p2 M v N) : v = mnS (bt p1) (bt p2) (lkW M w) ∧ N = M := by
  obtain ⟨v1, M1, h232, hv, hN⟩ := h
  obtain ⟨e1, e2⟩ := D_232_w h232
  refine ⟨?_, by rw [hN, e2]⟩
  have ec : f_239 p1 * f_239 p2 - f_239 (p1 &&& p2) = s2 (cS (bt p1) (bt p2)) (fun _ _ => kI 1) 24 := by
    rw [cS_count, f239_24 h1, f239_24 h2, f239_24 (nb_and h1), cN_cg (p := bt (p1 &&& p2)) (q := fun i => bt p1 i && bt p2 i) (fun i _ => bt_and)]
  rw [hv, ec, e1]
  obtain ⟨k, hk, ek⟩ := s2_n (c := cS (bt p1) (bt p2)) (n := 24)
  rw [f38_43]
  · rfl
  · rw [ek, kI_toInt (by omega) (by omega)]
    omega
theorem D_230_w {w : Nat} {M v N} (h1 : nb (f_226 w (kI 0) M)) (h2 : nb (f_226 w (kI 1) M)) (h : D_230 w M v N) : v = crS (bt (f_226 w (kI 0) M)) (bt (f_226 w (kI 1) M)) (lkW M w) ∧ N = M := by
  obtain ⟨v1, M1, ha, v2, M2, hb, hv, hN⟩ := h
  obtain ⟨a1, a2⟩ := D_232_w ha
  rw [a2] at hb
  obtain ⟨b1, b2⟩ := D_232_w hb
  refine ⟨?_, by rw [hN, b2]⟩
  rw [hv, f239_24 h1, f239_24 h2, a1, b1]
  have l1 := cN_le (p := bt (f_226 w (kI 0) M)) (n := 24)
  have l2 := cN_le (p := bt (f_226 w (kI 1) M)) (n := 24)
  rw [f38_43]
  · rfl
  · have e : kI 2 * kI (cN (bt (f_226 w (kI 0) M)) 24 : Nat) * kI (cN (bt (f_226 w (kI 1) M)) 24 : Nat) = kI ((2 * cN (bt (f_226 w (kI 0) M)) 24 * cN (bt (f_226 w (kI 1) M)) 24 : Nat) : Int) := by
      rw [kI_nm, kI_nm]
      rfl
    have b : 2 * cN (bt (f_226 w (kI 0) M)) 24 * cN (bt (f_226 w (kI 1) M)) 24 ≤ 2 * 24 * 24 := Nat.mul_le_mul (Nat.mul_le_mul (Nat.le_refl _) l1) l2
    rw [e, kI_toInt (by omega) (by omega)]
    omega
/-! the reference's sums -/
def thV (V : pMem) (i : Nat) : Bool := !decide (V 191 i = 0)
def inL (V : pMem) (p : Int32) (i : Nat) : Bool := thV V i && decide (V 189 i = p)
def lkV (V : pMem) (i j : Nat) : Int32 := V 194 (24 * i + j)
def sgl (b i : Nat) : Bool := decide (i = b)
/-- so many boys; those that are none are nowhere -/
def rNb (V : pMem) (n : Nat) : Prop := n ≤ 24 ∧ (V 188 2).toInt = n ∧ ∀ i, n ≤ i → i < 24 → V 191 i = 0
theorem thV_0 {V : pMem} {n i : Nat} (h : rNb V n) (h1 : n ≤ i) (h2 : i < 24) : thV V i = false := by
  unfold thV
  rw [decide_eq_true (h.2.2 i h1 h2)]
  rfl
theorem inL_0 {V : pMem} {n i : Nat} {p : Int32} (h : rNb V n) (h1 : n ≤ i) (h2 : i < 24) : inL V p i = false := by
  unfold inL
  rw [thV_0 h h1 h2]
  rfl
theorem cS_0 {A B : Nat → Bool} {n : Nat} (hA : ∀ i, n ≤ i → i < 24 → A i = false) (hB : ∀ i, n ≤ i → i < 24 → B i = false) : ∀ i j, i < 24 → j < 24 → (n ≤ i ∨ n ≤ j) → cS A B i j = false := by
  intro i j hi hj h
  unfold cS
  rcases h with h | h
  · rw [hA i h hi]
    rfl
  · rw [hB j h hj, Bool.false_and, Bool.and_false]
/-- what a couple adds -/
def tR (c : Nat → Nat → Bool) (g : Nat → Nat → Int32) (i j : Nat) : Int32 := if c i j = true then g i j else 0
theorem tR_n {c : Nat → Nat → Bool} {g : Nat → Nat → Int32} {i j : Nat} (h : c i j = false) : tR c g i j = 0 := by
  unfold tR
  rw [h]
  rfl
theorem tR_y {c : Nat → Nat → Bool} {g : Nat → Nat → Int32} {i j : Nat} (h : c i j = true) : tR c g i j = g i j := by
  unfold tR
  rw [if_pos h]
def u1 (_ _ : Nat) : Int32 := kI 1
def r54 (c : Nat → Nat → Bool) (M : pMem) (n : Nat) (v : Int32) (N : pMem) : Prop := v = f_43 (s2 c (lkV M) n) (s2 c u1 n) ∧ N = M
theorem r54_24 {c : Nat → Nat → Bool} {M : pMem} {n : Nat} {v : Int32} {N : pMem} (n24 : n ≤ 24) (hc : ∀ i j, i < 24 → j < 24 → (n ≤ i ∨ n ≤ j) → c i j = false) (h : r54 c M n v N) : v = f_43 (s2 c (lkV M) 24) (s2 c (fun _ _ => kI 1) 24) ∧ N = M := by
  refine ⟨?_, h.2⟩
  rw [h.1, s2_ext (g := lkV M) n24 hc, s2_ext (g := fun _ _ => kI 1) n24 hc]
  rfl
/-- heads of such loops -/
def q54 (c : Nat → Nat → Bool) (M : pMem) (n : Nat) (x3 x4 x5 : Int32) (M' : pMem) (v : Int32) (N : pMem) : Prop := ∀ i : Nat, x5.toInt = i → i ≤ n → M' = M → x3 = sm (fun i => sm (tR c (lkV M) i) n) i → x4 = sm (fun i => sm (tR c u1 i) n) i → r54 c M n v N
def q54i (c : Nat → Nat → Bool) (M : pMem) (n : Nat) (x3 x4 x5 x6 : Int32) (M' : pMem) (v : Int32) (N : pMem) : Prop := ∀ i j : Nat, x5.toInt = i → x6.toInt = j → i < n → j ≤ n → M' = M → x3 = sm (fun i => sm (tR c (lkV M) i) n) i + sm (tR c (lkV M) i) j → x4 = sm (fun i => sm (tR c u1 i) n) i + sm (tR c u1 i) j → r54 c M n v N
section Q54
variable {c : Nat → Nat → Bool} {M : pMem} {n : Nat} {x3 x4 x5 x6 : Int32} {v : Int32} {N : pMem} {i j : Nat}
theorem q54_end (hi : x5.toInt = i) (h3 : x3 = sm (fun i => sm (tR c (lkV M) i) n) i) (h4 : x4 = sm (fun i => sm (tR c u1 i) n) i) (e : i = n) : r54 c M n (f_43 x3 x4) M := by
  rw [e] at h3 h4
  exact ⟨by rw [h3, h4]; rfl, rfl⟩
theorem q54_in (hi : x5.toInt = i) (hin : i < n) (h3 : x3 = sm (fun i => sm (tR c (lkV M) i) n) i) (h4 : x4 = sm (fun i => sm (tR c u1 i) n) i) (hs : q54i c M n x3 x4 x5 (kI 0) M v N) : r54 c M n v N :=
  hs i 0 hi rfl hin (Nat.zero_le _) rfl (by rw [h3]; exact (Int32.add_zero _).symm) (by rw [h4]; exact (Int32.add_zero _).symm)
theorem q54_out (n24 : n ≤ 24) (hi : x5.toInt = i) (hin : i < n) (h3 : x3 = sm (fun i => sm (tR c (lkV M) i) n) i + sm (tR c (lkV M) i) j) (h4 : x4 = sm (fun i => sm (tR c u1 i) n) i + sm (tR c u1 i) j) (e : j = n) (hs : q54 c M n x3 x4 (x5 + kI 1) M v N) : r54 c M n v N := by
  rw [e] at h3 h4
  exact hs (i + 1) (n_add1 hi (by omega)) (by omega) rfl (by rw [h3]; rfl) (by rw [h4]; rfl)
theorem q54_no (n24 : n ≤ 24) (hi : x5.toInt = i) (hj : x6.toInt = j) (hin : i < n) (hjn : j < n) (h3 : x3 = sm (fun i => sm (tR c (lkV M) i) n) i + sm (tR c (lkV M) i) j) (h4 : x4 = sm (fun i => sm (tR c u1 i) n) i + sm (tR c u1 i) j) (e : c i j = false) (hs : q54i c M n x3 x4 x5 (x6 + kI 1) M v N) : r54 c M n v N :=
  hs i (j + 1) hi (n_add1 hj (by omega)) hin (by omega) rfl (by rw [h3, sm_s, tR_n e, Int32.add_zero]) (by rw [h4, sm_s, tR_n e, Int32.add_zero])
theorem q54_yes (n24 : n ≤ 24) (hi : x5.toInt = i) (hj : x6.toInt = j) (hin : i < n) (hjn : j < n) (h3 : x3 = sm (fun i => sm (tR c (lkV M) i) n) i + sm (tR c (lkV M) i) j) (h4 : x4 = sm (fun i => sm (tR c u1 i) n) i + sm (tR c u1 i) j) (e : c i j = true) (hs : q54i c M n (x3 + M 194 (ix ((kI 24) * x5 + x6))) (x4 + kI 1) x5 (x6 + kI 1) M v N) : r54 c M n v N := by
  rw [(ix24 hi hj (by omega) (by omega)).2] at hs
  refine hs i (j + 1) hi (n_add1 hj (by omega)) hin (by omega) rfl ?_ ?_
  · rw [h3, sm_s, tR_y e, Int32.add_assoc]
    rfl
  · rw [h4, sm_s, tR_y e, Int32.add_assoc]
    rfl
end Q54
theorem cS_inL {M : pMem} {p1 p2 : Int32} {i j : Nat} : cS (inL M p1) (inL M p2) i j = true ↔ (¬ i = j ∧ ¬ M 191 i = 0 ∧ ¬ M 191 j = 0 ∧ M 189 i = p1 ∧ M 189 j = p2) := by
  have e : cS (inL M p1) (inL M p2) i j = (!decide (M 191 i = 0) && decide (M 189 i = p1) && ((!decide (M 191 j = 0) && decide (M 189 j = p2)) && !decide (i = j))) := rfl
  rw [e]
  simp only [Bool.and_eq_true, Bool.not_eq_true', decide_eq_false_iff_not, decide_eq_true_iff]
  exact ⟨fun e => ⟨e.2.2, e.1.1, e.2.1.1, e.1.2, e.2.1.2⟩, fun e => ⟨⟨e.2.1, e.2.2.2.1⟩, ⟨e.2.2.1, e.2.2.2.2⟩, e.1⟩⟩
theorem D_54_w {p1 p2 : Int32} {n : Nat} {M v N} (hn : rNb M n) (h : D_54 p1 p2 M v N) : v = mnS (inL M p1) (inL M p2) (lkV M) ∧ N = M := by
  obtain ⟨n24, hn2, hn3⟩ := id hn
  have hc := cS_0 (A := inL M p1) (B := inL M p2) (n := n) (fun i h1 h2 => inL_0 hn h1 h2) (fun i h1 h2 => inL_0 hn h1 h2)
  have q : q54 (cS (inL M p1) (inL M p2)) M n (kI 0) (kI 0) (kI 0) M v N := h (q54 (cS (inL M p1) (inL M p2)) M n, q54i (cS (inL M p1) (inL M p2)) M n) ⟨?_, ?_⟩
  · exact r54_24 n24 hc (q 0 rfl (Nat.zero_le _) rfl rfl rfl)
  · intro x3 x4 x5 M' v N hs i hi hin hM h3 h4
    rw [hM] at hs
    rcases hs with ⟨g1, hv, hN⟩ | ⟨g1, hs⟩
    · rw [i_le, hi, hn2] at g1
      rw [hv, hN]
      exact q54_end hi h3 h4 (by omega)
    · rw [i_le, hi, hn2] at g1
      exact q54_in hi (by omega) h3 h4 hs
  · intro x3 x4 x5 x6 M' v N hs i j hi hj hin hjn hM h3 h4
    rw [hM] at hs
    rcases hs with ⟨g1, hs⟩ | ⟨g1, hs⟩
    · rw [i_le, hj, hn2] at g1
      exact q54_out n24 hi hin h3 h4 (by omega) hs
    · rw [i_le, hj, hn2] at g1
      have no : ¬ (¬ i = j ∧ ¬ M 191 i = 0 ∧ ¬ M 191 j = 0 ∧ M 189 i = p1 ∧ M 189 j = p2) → q54i (cS (inL M p1) (inL M p2)) M n x3 x4 x5 (x6 + kI 1) M v N → r54 (cS (inL M p1) (inL M p2)) M n v N := fun q hs =>
        q54_no n24 hi hj hin (by omega) h3 h4 (Bool.eq_false_iff.mpr fun e => q (cS_inL.mp e)) hs
      rcases hs with ⟨g2, hs⟩ | ⟨g2, _, hs⟩
      · exact no (fun q => q.1 (by rw [i_eq, hi, hj] at g2; omega)) hs
      · rw [ix_of hi, ix_of hj] at hs
        rcases hs with ⟨g3, hs⟩ | ⟨g3, _, hs⟩
        · exact no (fun q => q.2.1 g3) hs
        · rcases hs with ⟨g4, hs⟩ | ⟨g4, _, hs⟩
          · exact no (fun q => q.2.2.1 g4) hs
          · rcases hs with ⟨g5, hs⟩ | ⟨g5, _, hs⟩
            · exact no (fun q => g5 q.2.2.2.1) hs
            · rcases hs with ⟨g6, _, hs⟩ | ⟨g6, hs⟩
              · exact q54_yes n24 hi hj hin (by omega) h3 h4 (cS_inL.mpr ⟨fun e => g2 (by rw [i_eq, hi, hj, e]), g3, g4, Classical.not_not.mp g5, g6⟩) hs
              · exact no (fun q => g6 q.2.2.2.2) hs
theorem D_53_w {p1 : Int32} {n : Nat} {M v N} (hn : rNb M n) (hb : ∀ i, i < 24 → bo (M 191 i)) (h : D_53 p1 M v N) : v = kI (cN (inL M p1) 24 : Nat) ∧ N = M := by
  obtain ⟨n24, hn2, hn3⟩ := id hn
  have q := h (fun x2 x3 M' v N => ∀ i : Nat, x3.toInt = i → i ≤ n → M' = M → x2 = kI (cN (inL M p1) i : Nat) → v = kI (cN (inL M p1) n : Nat) ∧ N = M) ?_
  · obtain ⟨q1, q2⟩ := q 0 rfl (Nat.zero_le _) rfl rfl
    refine ⟨?_, q2⟩
    rw [q1, cN_ext n24 (fun i h1 h2 => inL_0 hn h1 h2)]
  · intro x2 x3 M' v N hs i hi hin hM h2
    rcases hs with ⟨g1, hv, hN⟩ | ⟨g1, _, hs⟩
    · rw [hM, i_le, hi, hn2] at g1
      have e : i = n := by omega
      rw [e] at h2
      exact ⟨by rw [hv, h2], by rw [hN, hM]⟩
    · rw [hM, i_le, hi, hn2] at g1
      rw [hM, ix_of hi] at hs
      have no : inL M p1 i = false → x2 = kI (cN (inL M p1) (i + 1) : Nat) := fun e => by
        rw [h2]
        show _ = kI ((cN (inL M p1) i + (if inL M p1 i = true then 1 else 0) : Nat) : Int)
        rw [e]
        rfl
      rcases hs with ⟨g2, hs⟩ | ⟨g2, _, hs⟩
      · refine hs (i + 1) (n_add1 hi (by omega)) (by omega) rfl (no ?_)
        have e : M 191 i = 0 := (hb i (by omega)).resolve_right g2
        unfold inL thV
        rw [decide_eq_true e]
        rfl
      · rcases hs with ⟨g3, hs⟩ | ⟨g3, hs⟩
        · refine hs (i + 1) (n_add1 hi (by omega)) (by omega) rfl (no ?_)
          unfold inL
          rw [decide_eq_false g3, Bool.and_false]
        · refine hs (i + 1) (n_add1 hi (by omega)) (by omega) rfl ?_
          have e : inL M p1 i = true := by
            unfold inL thV
            rw [decide_eq_true (Classical.not_not.mp g3), Classical.not_not.mp g2]
            decide
          rw [h2]
          show _ = kI ((cN (inL M p1) i + (if inL M p1 i = true then 1 else 0) : Nat) : Int)
          rw [if_pos e, kI_n1]
          rfl
/-- all couples across -/
def cX2 (V : pMem) (i j : Nat) : Bool := thV V i && (thV V j && !decide (V 189 i = V 189 j))
theorem cX2_or {V : pMem} (hl : ∀ i, i < 24 → bo (V 189 i)) {i j : Nat} (hi : i < 24) (hj : j < 24) : cX2 V i j = (cS (inL V (kI 0)) (inL V (kI 1)) i j || cS (inL V (kI 1)) (inL V (kI 0)) i j) := by
  unfold cX2 cS inL
  rcases hl i hi with e | e <;> rcases hl j hj with e2 | e2
  · rw [e, e2]
    cases thV V i <;> cases thV V j <;> rfl
  · have ne : ¬ i = j := fun q => by rw [q, e2] at e; exact absurd e (by decide)
    rw [e, e2, decide_eq_false ne]
    cases thV V i <;> cases thV V j <;> rfl
  · have ne : ¬ i = j := fun q => by rw [q, e2] at e; exact absurd e (by decide)
    rw [e, e2, decide_eq_false ne]
    cases thV V i <;> cases thV V j <;> rfl
  · rw [e, e2]
    cases thV V i <;> cases thV V j <;> rfl
theorem cX2_s {V : pMem} (hl : ∀ i, i < 24 → bo (V 189 i)) {g : Nat → Nat → Int32} : s2 (cX2 V) g 24 = s2 (cS (inL V (kI 0)) (inL V (kI 1))) g 24 + s2 (cS (inL V (kI 1)) (inL V (kI 0))) g 24 := by
  rw [← s2_or]
  · exact s2_cg (fun i j hi hj => cX2_or hl hi hj) (fun _ _ _ _ _ => rfl)
  · rintro i j hi hj ⟨a, b⟩
    unfold cS inL at a b
    simp only [Bool.and_eq_true, decide_eq_true_iff] at a b
    rw [a.1.2] at b
    exact absurd b.1.2 (by decide)
theorem cX2_cr {V : pMem} (hl : ∀ i, i < 24 → bo (V 189 i)) : f_43 (s2 (cX2 V) (lkV V) 24) (s2 (cX2 V) (fun _ _ => kI 1) 24) = crS (inL V (kI 0)) (inL V (kI 1)) (lkV V) := by
  have e0 : cN (fun i => inL V (kI 0) i && inL V (kI 1) i) 24 = 0 := by
    rw [cN_ext (n := 0) (by decide)]
    · rfl
    · intro i _ _
      unfold inL
      by_cases e : V 189 i = kI 0
      · rw [e]
        cases thV V i <;> rfl
      · rw [decide_eq_false e, Bool.and_false, Bool.false_and]
  have e1 : cN (fun i => inL V (kI 1) i && inL V (kI 0) i) 24 = 0 := by
    rw [cN_cg (q := fun i => inL V (kI 0) i && inL V (kI 1) i) (fun i _ => Bool.and_comm _ _)]
    exact e0
  unfold crS
  rw [cX2_s hl, cX2_s hl, cS_count, cS_count, e0, e1]
  congr 1
  show kI _ * kI _ - 0 + (kI _ * kI _ - 0) = _
  rw [Int32.sub_zero, Int32.sub_zero, Int32.mul_comm (kI (cN (inL V (kI 1)) 24 : Nat)), ← Int32.two_mul, Int32.mul_assoc]
  rfl
theorem cX2_iff {M : pMem} {i j : Nat} : cX2 M i j = true ↔ (¬ M 191 i = 0 ∧ ¬ M 191 j = 0 ∧ ¬ M 189 i = M 189 j) := by
  have e : cX2 M i j = (!decide (M 191 i = 0) && (!decide (M 191 j = 0) && !decide (M 189 i = M 189 j))) := rfl
  rw [e]
  simp only [Bool.and_eq_true, Bool.not_eq_true', decide_eq_false_iff_not]
theorem D_55_w {n : Nat} {M v N} (hn : rNb M n) (hl : ∀ i, i < 24 → bo (M 189 i)) (h : D_55 M v N) : v = crS (inL M (kI 0)) (inL M (kI 1)) (lkV M) ∧ N = M := by
  obtain ⟨n24, hn2, hn3⟩ := id hn
  have hc : ∀ i j, i < 24 → j < 24 → (n ≤ i ∨ n ≤ j) → cX2 M i j = false := by
    intro i j hi hj h
    unfold cX2
    rcases h with h | h
    · rw [thV_0 hn h hi]
      rfl
    · rw [thV_0 hn h hj, Bool.false_and, Bool.and_false]
  have q : q54 (cX2 M) M n (kI 0) (kI 0) (kI 0) M v N := h (q54 (cX2 M) M n, q54i (cX2 M) M n) ⟨?_, ?_⟩
  · rw [← cX2_cr hl]
    exact r54_24 n24 hc (q 0 rfl (Nat.zero_le _) rfl rfl rfl)
  · intro x3 x4 x5 M' v N hs i hi hin hM h3 h4
    rw [hM] at hs
    rcases hs with ⟨g1, hv, hN⟩ | ⟨g1, hs⟩
    · rw [i_le, hi, hn2] at g1
      rw [hv, hN]
      exact q54_end hi h3 h4 (by omega)
    · rw [i_le, hi, hn2] at g1
      exact q54_in hi (by omega) h3 h4 hs
  · intro x3 x4 x5 x6 M' v N hs i j hi hj hin hjn hM h3 h4
    rw [hM] at hs
    rcases hs with ⟨g1, hs⟩ | ⟨g1, _, hs⟩
    · rw [i_le, hj, hn2] at g1
      exact q54_out n24 hi hin h3 h4 (by omega) hs
    · rw [i_le, hj, hn2] at g1
      have no : ¬ (¬ M 191 i = 0 ∧ ¬ M 191 j = 0 ∧ ¬ M 189 i = M 189 j) → q54i (cX2 M) M n x3 x4 x5 (x6 + kI 1) M v N → r54 (cX2 M) M n v N := fun q hs =>
        q54_no n24 hi hj hin (by omega) h3 h4 (Bool.eq_false_iff.mpr fun e => q (cX2_iff.mp e)) hs
      rw [ix_of hi, ix_of hj] at hs
      rcases hs with ⟨g3, hs⟩ | ⟨g3, _, hs⟩
      · exact no (fun q => q.1 g3) hs
      · rcases hs with ⟨g4, hs⟩ | ⟨g4, _, _, hs⟩
        · exact no (fun q => q.2.1 g4) hs
        · rcases hs with ⟨g6, _, hs⟩ | ⟨g6, hs⟩
          · exact q54_yes n24 hi hj hin (by omega) h3 h4 (cX2_iff.mpr ⟨g3, g4, g6⟩) hs
          · exact no (fun q => g6 q.2.2) hs
/-! for one boy -/
theorem s2_col {A : Nat → Bool} {g : Nat → Nat → Int32} {b n : Nat} (hb : b < n) : s2 (cS A (sgl b)) g n = sm (fun i => if (A i && !decide (i = b)) = true then g i b else 0) n := by
  refine sm_cg fun i hi => ?_
  have e : sm (fun j => if cS A (sgl b) i j = true then g i j else 0) n = sm (fun j => if j = b then (if (A i && !decide (i = b)) = true then g i b else 0) else 0) n := by
    refine sm_cg fun j _ => ?_
    unfold cS sgl
    by_cases h : j = b
    · subst h
      rw [if_pos rfl, decide_eq_true rfl, Bool.true_and]
    · rw [if_neg h, decide_eq_false h, Bool.false_and, Bool.and_false]
      rfl
  rw [e, sm_one, if_pos hb]
theorem s2_row {B : Nat → Bool} {g : Nat → Nat → Int32} {b n : Nat} (hb : b < n) : s2 (cS (sgl b) B) g n = sm (fun j => if (B j && !decide (j = b)) = true then g b j else 0) n := by
  have e : s2 (cS (sgl b) B) g n = sm (fun i => if i = b then sm (fun j => if (B j && !decide (j = b)) = true then g b j else 0) n else 0) n := by
    refine sm_cg fun i _ => ?_
    by_cases h : i = b
    · subst h
      rw [if_pos rfl]
      refine sm_cg fun j _ => ?_
      unfold cS sgl
      rw [decide_eq_true rfl, Bool.true_and]
      by_cases q : i = j
      · rw [decide_eq_true q, decide_eq_true q.symm]
      · rw [decide_eq_false q, decide_eq_false (fun r => q r.symm)]
    · rw [if_neg h]
      refine sm_0 fun j _ => ?_
      unfold cS sgl
      rw [decide_eq_false h]
      rfl
  rw [e, sm_one, if_pos hb]
/-- of whom the others are asked, and what -/
def fr56 (V : pMem) (b : Nat) (p2 : Int32) (j : Nat) : Bool := (!decide (V 191 j = 0) && (if p2 = kI 1 then !decide (V 189 j = V 189 b) else decide (V 189 j = V 189 b))) && !decide (j = b)
def lk56 (V : pMem) (b : Nat) (p2 : Int32) (j : Nat) : Int32 := if p2 = kI 2 then lkV V b j else lkV V j b
def t56 (V : pMem) (b : Nat) (p2 : Int32) (g : Nat → Int32) (j : Nat) : Int32 := if fr56 V b p2 j = true then g j else 0
def mf56 (V : pMem) (b : Nat) (p2 : Int32) : Int32 := f_43 (sm (t56 V b p2 (lk56 V b p2)) 24) (sm (t56 V b p2 (fun _ => kI 1)) 24)
theorem t56_n {V : pMem} {b : Nat} {p2 : Int32} {g : Nat → Int32} {j : Nat} (h : fr56 V b p2 j = false) : t56 V b p2 g j = 0 := by
  unfold t56
  rw [h]
  rfl
theorem D_56_w {p1 p2 : Int32} {n b : Nat} {M v N} (hn : rNb M n) (hb : p1.toInt = b) (hbn : b < n) (h : D_56 p1 p2 M v N) : v = mf56 M b p2 ∧ N = M := by
  obtain ⟨n24, hn2, hn3⟩ := id hn
  have ext : ∀ g, sm (t56 M b p2 g) 24 = sm (t56 M b p2 g) n := fun g => sm_ext n24 fun i h1 h2 => t56_n (by
    unfold fr56
    rw [decide_eq_true (hn3 i h1 h2)]
    rfl)
  have q := h (fun x3 x4 x5 M' v N => ∀ i : Nat, x5.toInt = i → i ≤ n → M' = M → x3 = sm (t56 M b p2 (lk56 M b p2)) i → x4 = sm (t56 M b p2 (fun _ => kI 1)) i → v = f_43 (sm (t56 M b p2 (lk56 M b p2)) n) (sm (t56 M b p2 (fun _ => kI 1)) n) ∧ N = M) ?_
  · obtain ⟨q1, q2⟩ := q 0 rfl (Nat.zero_le _) rfl rfl rfl
    refine ⟨?_, q2⟩
    unfold mf56
    rw [q1, ext, ext]
  · intro x3 x4 x5 M' v N hs i hi hin hM h3 h4
    rw [hM] at hs
    rcases hs with ⟨g1, hv, hN⟩ | ⟨g1, hs⟩
    · rw [i_le, hi, hn2] at g1
      have e : i = n := by omega
      rw [e] at h3 h4
      exact ⟨by rw [hv, h3, h4], hN⟩
    · rw [i_le, hi, hn2] at g1
      have no : ∀ {P : Prop}, fr56 M b p2 i = false → ((∀ i' : Nat, (x5 + kI 1).toInt = i' → i' ≤ n → M = M → x3 = sm (t56 M b p2 (lk56 M b p2)) i' → x4 = sm (t56 M b p2 (fun _ => kI 1)) i' → P) → P) := fun e hs =>
        hs (i + 1) (n_add1 hi (by omega)) (by omega) rfl (by rw [h3, sm_s, t56_n e, Int32.add_zero]) (by rw [h4, sm_s, t56_n e, Int32.add_zero])
      have yes : ∀ {P : Prop} {y : Int32}, fr56 M b p2 i = true → y = lk56 M b p2 i → ((∀ i' : Nat, (x5 + kI 1).toInt = i' → i' ≤ n → M = M → x3 + y = sm (t56 M b p2 (lk56 M b p2)) i' → x4 + kI 1 = sm (t56 M b p2 (fun _ => kI 1)) i' → P) → P) := fun e ey hs =>
        hs (i + 1) (n_add1 hi (by omega)) (by omega) rfl (by rw [h3, sm_s, ey]; unfold t56; rw [if_pos e]) (by rw [h4, sm_s]; show _ = _ + t56 M b p2 (fun _ => kI 1) i; unfold t56; rw [if_pos e])
      rcases hs with ⟨g2, hs⟩ | ⟨g2, _, hs⟩
      · exact no (by unfold fr56; rw [decide_eq_true (show i = b by rw [i_eq, hi, hb] at g2; omega), Bool.not_true, Bool.and_false]) hs
      · have ne : ¬ i = b := fun e => g2 (by rw [i_eq, hi, hb, e])
        rw [ix_of hi, ix_of hb, (ix24 hi hb (by omega) (by omega)).2, (ix24 hb hi (by omega) (by omega)).2] at hs
        rcases hs with ⟨g3, hs⟩ | ⟨g3, _, _, hs⟩
        · exact no (by unfold fr56; rw [decide_eq_true g3]; rfl) hs
        · rcases hs with ⟨g4, hs⟩ | ⟨g4, hs⟩
          · rcases hs with ⟨g5, hs⟩ | ⟨g5, hs⟩
            · have ok : fr56 M b p2 i = true := by
                unfold fr56
                rw [decide_eq_false g3, decide_eq_false ne, if_pos g5, decide_eq_false g4]
                rfl
              rcases hs with ⟨g6, _, hs⟩ | ⟨g6, _, hs⟩
              · exact yes ok (by unfold lk56; rw [if_neg g6]; rfl) hs
              · exact yes ok (by unfold lk56; rw [if_pos (Classical.not_not.mp g6)]; rfl) hs
            · exact no (by unfold fr56; rw [if_neg g5, decide_eq_false g4, Bool.and_false]; rfl) hs
          · have g4 := Classical.not_not.mp g4
            rcases hs with ⟨g5, hs⟩ | ⟨g5, hs⟩
            · exact no (by unfold fr56; rw [if_pos g5, decide_eq_true g4, Bool.not_true, Bool.and_false]; rfl) hs
            · have ok : fr56 M b p2 i = true := by
                unfold fr56
                rw [decide_eq_false g3, decide_eq_false ne, if_neg g5, decide_eq_true g4]
                rfl
              rcases hs with ⟨g6, _, hs⟩ | ⟨g6, _, hs⟩
              · exact yes ok (by unfold lk56; rw [if_neg g6]; rfl) hs
              · exact yes ok (by unfold lk56; rw [if_pos (Classical.not_not.mp g6)]; rfl) hs
/-- as the class has it -/
theorem mf56_0 {V : pMem} {b : Nat} (hb : b < 24) : mf56 V b (kI 0) = mnS (inL V (V 189 b)) (sgl b) (lkV V) := by
  unfold mf56 mnS
  rw [s2_col hb, s2_col hb]
  rfl
theorem mf56_1 {V : pMem} {b : Nat} (hb : b < 24) (hl : ∀ i, i < 24 → bo (V 189 i)) : mf56 V b (kI 1) = mnS (inL V (kI 1 - V 189 b)) (sgl b) (lkV V) := by
  unfold mf56 mnS
  rw [s2_col hb, s2_col hb]
  have e : ∀ i, i < 24 → fr56 V b (kI 1) i = (inL V (kI 1 - V 189 b) i && !decide (i = b)) := fun i hi => by
    unfold fr56 inL thV
    rw [if_pos rfl]
    congr 2
    rcases hl i hi with q | q <;> rcases hl b hb with r | r <;> rw [q, r] <;> decide
  have e2 : ∀ g : Nat → Int32, sm (t56 V b (kI 1) g) 24 = sm (fun i => if (inL V (kI 1 - V 189 b) i && !decide (i = b)) = true then g i else 0) 24 := fun g => sm_cg fun i hi => by
    unfold t56
    rw [e i hi]
  rw [e2, e2]
  rfl
theorem mf56_2 {V : pMem} {b : Nat} (hb : b < 24) : mf56 V b (kI 2) = mnS (sgl b) (inL V (V 189 b)) (lkV V) := by
  unfold mf56 mnS
  rw [s2_row hb, s2_row hb]
  rfl
/-! draws, scores -/
def drV (x : Int32) : Int32 := pRem (pUsr (xDraw x) (kI 8)) (kI 10)
theorem D_234_v {w : Nat} {M v N} (h : D_234 w M v N) : v = drV (M w 5) ∧ N = aPut M w 5 (xDraw (M w 5)) := by
  obtain ⟨M1, e1, _, hv, hN⟩ := h
  rw [hv, hN, e1, aPut_same]
  exact ⟨rfl, rfl⟩
theorem D_51_v {M v N} (h : D_51 (kI 10) M v N) : v = drV (M 188 1) ∧ N = aPut M 188 1 (xDraw (M 188 1)) := by
  obtain ⟨M1, e1, _, hv, hN⟩ := h
  rw [hv, hN, e1, aPut_same]
  exact ⟨rfl, rfl⟩
/-- the strengths of a set -/
def stS (A : Nat → Bool) (s : Nat → Int32) (n : Nat) : Int32 := sm (fun i => if A i = true then s i else 0) n
theorem stS_cg {A B : Nat → Bool} {s t : Nat → Int32} {n : Nat} (hA : ∀ i, i < n → A i = B i) (hs : ∀ i, i < n → s i = t i) : stS A s n = stS B t n := sm_cg fun i hi => by rw [hA i hi, hs i hi]
theorem stS_s {A : Nat → Bool} {s : Nat → Int32} {n : Nat} : stS A s (n + 1) = stS A s n + (if A n = true then s n else 0) := rfl
theorem D_233_v {w : Nat} (hw : pK 10 w = true) {p1 : Int32} {M v N} (h1 : nb (f_226 w p1 M)) (h : D_233 w p1 M v N) : v = f_43 (mnS (bt (f_226 w p1 M)) (bt (f_226 w p1 M)) (lkW M w)) (kI 5) + drV (M w 5) + stS (bt (f_226 w p1 M)) (M (w + 1)) 24 ∧ N = aPut M w 5 (xDraw (M w 5)) := by
  obtain ⟨v1, M1, h231, _, v2, M2, h234, hL⟩ := h
  obtain ⟨a1, a2⟩ := D_231_w h1 h1 h231
  rw [a2] at h234
  obtain ⟨b1, b2⟩ := D_234_v h234
  have q := hL (fun x2 x3 x4 M' v N => ∀ i : Nat, x4.toInt = i → i ≤ 24 → x2 = f_226 w p1 M → M' = M2 → x3 = pFd v1 (kI 5) + v2 + stS (bt (f_226 w p1 M)) (M (w + 1)) i → v = pFd v1 (kI 5) + v2 + stS (bt (f_226 w p1 M)) (M (w + 1)) 24 ∧ N = M2) ?_
  · obtain ⟨q1, q2⟩ := q 0 rfl (Nat.zero_le _) rfl rfl (Int32.add_zero _).symm
    refine ⟨?_, q2.trans b2⟩
    rw [q1, a1, b1, fd_43 (by decide)]
  · intro x2 x3 x4 M' v N hs i hi hi24 h2 hM h3
    rw [hM, h2] at hs
    rcases hs with ⟨g, hv, hN⟩ | ⟨g, hs⟩
    · rw [i_le, hi, kI_toInt (by decide) (by decide)] at g
      have e : i = 24 := by omega
      rw [e] at h3
      exact ⟨by rw [hv, h3], hN⟩
    · rw [i_le, hi, kI_toInt (by decide) (by decide)] at g
      rcases hs with ⟨g2, hs⟩ | ⟨g2, _, hs⟩
      · have g2 := (f37_n hi (by omega)).mp g2
        refine hs (i + 1) (n_add1 hi (by omega)) (by omega) rfl rfl ?_
        rw [h3, stS_s, g2]
        rw [if_neg (by decide), Int32.add_zero]
      · have g2 := (f37_y hi (by omega)).mp g2
        refine hs (i + 1) (n_add1 hi (by omega)) (by omega) rfl rfl ?_
        rw [h3, stS_s, if_pos g2, ix_of hi, Int32.add_assoc, b2, aPut_cell (by omega)]
theorem D_90_v {p1 : Int32} {n : Nat} {M v N} (hn : rNb M n) (hb : ∀ i, i < 24 → bo (M 191 i)) (h : D_90 p1 M v N) : v = f_43 (mnS (inL M p1) (inL M p1) (lkV M)) (kI 5) + drV (M 188 1) + stS (inL M p1) (M 190) 24 ∧ N = aPut M 188 1 (xDraw (M 188 1)) := by
  obtain ⟨n24, hn2, hn3⟩ := id hn
  have q := h (fun x2 x3 M' v N => ∀ i : Nat, x3.toInt = i → i ≤ n → M' = M → x2 = stS (inL M p1) (M 190) i → v = stS (inL M p1) (M 190) n + f_43 (mnS (inL M p1) (inL M p1) (lkV M)) (kI 5) + drV (M 188 1) ∧ N = aPut M 188 1 (xDraw (M 188 1))) ?_
  · obtain ⟨q1, q2⟩ := q 0 rfl (Nat.zero_le _) rfl rfl
    refine ⟨?_, q2⟩
    have e : stS (inL M p1) (M 190) 24 = stS (inL M p1) (M 190) n := sm_ext n24 (fun i h1 h2 => by rw [inL_0 hn h1 h2]; rfl)
    rw [q1, e, Int32.add_assoc, Int32.add_comm]
  · intro x2 x3 M' v N hs i hi hin hM h2
    rw [hM] at hs
    rcases hs with ⟨g1, v1, M1, h54, v2, M2, h51, hv, hN⟩ | ⟨g1, _, hs⟩
    · rw [i_le, hi, hn2] at g1
      have e : i = n := by omega
      obtain ⟨a1, a2⟩ := D_54_w hn h54
      rw [a2] at h51
      obtain ⟨b1, b2⟩ := D_51_v h51
      rw [hv, hN, h2, a1, b1, b2, e]
      exact ⟨rfl, rfl⟩
    · rw [i_le, hi, hn2] at g1
      rw [ix_of hi] at hs
      have no : inL M p1 i = false → x2 = stS (inL M p1) (M 190) (i + 1) := fun e => by
        rw [h2, stS_s, e, if_neg (by decide), Int32.add_zero]
      rcases hs with ⟨g2, hs⟩ | ⟨g2, _, hs⟩
      · refine hs (i + 1) (n_add1 hi (by omega)) (by omega) rfl (no ?_)
        have e : M 191 i = 0 := (hb i (by omega)).resolve_right g2
        unfold inL thV
        rw [decide_eq_true e]
        rfl
      · rcases hs with ⟨g3, hs⟩ | ⟨g3, _, hs⟩
        · refine hs (i + 1) (n_add1 hi (by omega)) (by omega) rfl (no ?_)
          unfold inL
          rw [decide_eq_false g3, Bool.and_false]
        · refine hs (i + 1) (n_add1 hi (by omega)) (by omega) rfl ?_
          have e : inL M p1 i = true := by
            unfold inL thV
            rw [decide_eq_true (Classical.not_not.mp g3), Classical.not_not.mp g2]
            decide
          rw [h2, stS_s, if_pos e]
