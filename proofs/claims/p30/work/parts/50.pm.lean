/-! partial runs: what holds of every run that comes to an end -/
abbrev pMem : Type := Nat → Nat → Int32
abbrev pT (α : Type) : Type := α → pMem → Prop
abbrev pH (K : Nat → aK) (M : pMem) : aH := (230, 108808, K, M)
abbrev kI (n : Int) : Int32 := Int32.ofInt n
def tIf {α : Type} (c : Prop) (A B : pT α) : pT α := fun v N => (c ∧ A v N) ∨ (¬ c ∧ B v N)
def tGd {α : Type} (c : Prop) (A : pT α) : pT α := fun v N => c ∧ A v N
def tCall {α β : Type} (D : pT β) (A : β → pMem → pT α) : pT α := fun v N => ∃ x M1, D x M1 ∧ A x M1 v N
def tPut {α : Type} (M1 : pMem) (A : pMem → pT α) : pT α := fun v N => ∃ M2, M2 = M1 ∧ A M2 v N
def tRet {α : Type} (x : α) (M : pMem) : pT α := fun v N => v = x ∧ N = M
def pG {α : Type} (e : α → Option Value) (K : Nat → aK) (out : Option Value × aH) (A : pT α) : Prop := ∃ v N, out = (e v, pH K N) ∧ A v N
def eI : Int32 → Option Value := fun x => some (.int x)
def eL : Int64 → Option Value := fun x => some (.long x)
def eR : Nat → Option Value := fun x => some (.ref x)
def eU : Unit → Option Value := fun _ => none
section PG
variable {α β : Type} {e : α → Option Value} {K : Nat → aK} {out : Option Value × aH} {A B : pT α} {c : Prop}
theorem pG_pos (g : c) (h : pG e K out A) : pG e K out (tIf c A B) := by
  obtain ⟨v, N, h1, h2⟩ := h
  exact ⟨v, N, h1, Or.inl ⟨g, h2⟩⟩
theorem pG_neg (g : ¬ c) (h : pG e K out B) : pG e K out (tIf c A B) := by
  obtain ⟨v, N, h1, h2⟩ := h
  exact ⟨v, N, h1, Or.inr ⟨g, h2⟩⟩
theorem pG_gd (g : c) (h : pG e K out A) : pG e K out (tGd c A) := by
  obtain ⟨v, N, h1, h2⟩ := h
  exact ⟨v, N, h1, g, h2⟩
theorem pG_call {D : pT β} {C : β → pMem → pT α} {x : β} {M1 : pMem} (g : D x M1) (h : pG e K out (C x M1)) : pG e K out (tCall D C) := by
  obtain ⟨v, N, h1, h2⟩ := h
  exact ⟨v, N, h1, x, M1, g, h2⟩
theorem pG_put {C : pMem → pT α} {M1 M2 : pMem} (g : M2 = M1) (h : pG e K out (C M2)) : pG e K out (tPut M1 C) := by
  obtain ⟨v, N, h1, h2⟩ := h
  exact ⟨v, N, h1, M2, g, h2⟩
theorem pG_ret {x : α} {M : pMem} (h : out = (e x, pH K M)) : pG e K out (tRet x M) := ⟨x, M, h, rfl, rfl⟩
theorem pG_mono (m : ∀ v N, A v N → B v N) (h : pG e K out A) : pG e K out B := by
  obtain ⟨v, N, h1, h2⟩ := h
  exact ⟨v, N, h1, m v N h2⟩
/-- what holds of each P there is -/
theorem pG_all {ι : Type} {C : ι → Prop} {T : ι → pT α} (inj : ∀ a b, e a = e b → a = b) (i : ι) (h0 : C i) (h : ∀ P, C P → pG e K out (T P)) : pG e K out (fun v N => ∀ P, C P → T P v N) := by
  obtain ⟨v, N, h1, _⟩ := h i h0
  refine ⟨v, N, h1, fun P hP => ?_⟩
  obtain ⟨v2, N2, h3, h4⟩ := h P hP
  rw [h1] at h3
  obtain ⟨e1, e2⟩ := Prod.mk.inj h3
  have e3 : N = N2 := congrArg (fun q : aH => q.2.2.2) e2
  rw [inj _ _ e1, e3]
  exact h4
theorem eI_inj : ∀ a b, eI a = eI b → a = b := fun a b h => by
  have := Option.some.inj h
  injection this
theorem eL_inj : ∀ a b, eL a = eL b → a = b := fun a b h => by
  have := Option.some.inj h
  injection this
theorem eR_inj : ∀ a b, eR a = eR b → a = b := fun a b h => by
  have := Option.some.inj h
  injection this
theorem eU_inj : ∀ a b, eU a = eU b → a = b := fun _ _ _ => rfl
end PG
/-- an index of a row of n -/
def pIn (j : Int32) (n : Nat) : Prop := 0 ≤ j.toInt ∧ j.toInt < (n : Int)
def pAbs (x : Int32) : Int32 := if 0 ≤ x then x else 0 - x
def pFd (x y : Int32) : Int32 := if (x ^^^ y) < 0 then if x / y * y = x then x / y else x / y - 1 else x / y
def pMnI (x y : Int32) : Int32 := if y < x then y else x
def pMxL (x y : Int64) : Int64 := if y < x then x else y
def pMnL (x y : Int64) : Int64 := if y < x then y else x
def pSl (a : Nat) : Int32 := Int32.ofNat (aStr.getD (a - 90001) "").length
def pSc (a : Nat) (j : Int32) : Int32 := aChr (aStr.getD (a - 90001) "") j.toNatClampNeg
def pRem (x y : Int32) : Int32 := x - x / y * y
def pUsr (x y : Int32) : Int32 := (x.toUInt32 >>> (y.toUInt32 &&& Int32.toUInt32 31)).toInt32
abbrev ix (j : Int32) : Nat := j.toNatClampNeg
def pCd (c : Jvm.ClassFile.Cond) (x y : Int32) : Prop := match c with
  | .eq => x = y
  | .ne => ¬ x = y
  | .lt => x < y
  | .ge => y ≤ x
  | .gt => y < x
  | .le => x ≤ y
theorem pCd_t {c : Jvm.ClassFile.Cond} {x y : Int32} (h : aCd c x y = true) : pCd c x y := by
  cases c <;> simpa [aCd, pCd] using h
theorem pCd_f {c : Jvm.ClassFile.Cond} {x y : Int32} (h : ¬ aCd c x y = true) : ¬ pCd c x y := by
  cases c <;> simpa [aCd, pCd] using h
/-- the rest of a block, and what comes behind it, come to that end -/
def pm (X : aX) (F d q f b : Nat) (is : List aI) (ls st : List Value) (h : aH) (out : Option Value × aH) : Prop :=
  (match aB X (aM X F d) (aRT q) b is ls st h with
    | some (.inl r) => aE X (aM X F d) (aRT q) (aMC q) f r.1 r.2.1 r.2.2.1 r.2.2.2
    | some (.inr r) => some r
    | none => none) = some out
def pPs : Nat → List aI → List Value → List Value → Option (List aI × List Value × List Value)
  | 0, is, ls, st => some (is, ls, st)
  | n + 1, i :: is, ls, st => match aP i ls st with
    | some (ls', st') => pPs n is ls' st'
    | none => none
  | _ + 1, [], _, _ => none
theorem aP_kd {i : aI} {ls st : List Value} {r : List Value × List Value} (h : aP i ls st = some r) : aKd i = 0 := by
  cases i <;> first | rfl | (have h' : (none : Option (List Value × List Value)) = some r := h; cases h')
theorem pMa {c : Prop} [Decidable c] {α : Type} {x r : α} (e : (if c then some x else none) = some r) : c ∧ r = x := by
  split at e
  · rename_i g
    cases e
    exact ⟨g, rfl⟩
  · cases e
section PM
variable {X : aX} {F d q f b : Nat} {i : aI} {is l l1 l2 : List aI} {ls st : List Value} {h : aH} {out : Option Value × aH} {K : Nat → aK} {M : pMem}
theorem pm_inv (hk : aKd i ≠ 4) (H : pm X F d q f b (i :: is) ls st h out) : ∃ ls' st' h', aS X (aM X F d) i ls st h = some (ls', st', h') ∧ pm X F d q f b is ls' st' h' out := by
  unfold pm at H
  unfold aB at H
  rw [if_neg hk] at H
  cases e : aS X (aM X F d) i ls st h with
  | none =>
    rw [e] at H
    cases H
  | some r =>
    obtain ⟨l1, s1, h1⟩ := r
    rw [e] at H
    exact ⟨l1, s1, h1, rfl, H⟩
theorem pm_step {ls' st' : List Value} {h' : aH} (hk : aKd i ≠ 4) (hS : aS X (aM X F d) i ls st h = some (ls', st', h')) (H : pm X F d q f b (i :: is) ls st h out) : pm X F d q f b is ls' st' h' out := by
  obtain ⟨l1, s1, h1, e, H⟩ := pm_inv hk H
  rw [hS] at e
  cases e
  exact H
theorem pRun {is' : List aI} {ls' st' : List Value} (n : Nat) (hS : pPs n is ls st = some (is', ls', st')) (H : pm X F d q f b is ls st h out) : pm X F d q f b is' ls' st' h out := by
  induction n generalizing is ls st with
  | zero =>
    unfold pPs at hS
    cases hS
    exact H
  | succ n ih =>
    cases is with
    | nil =>
      unfold pPs at hS
      cases hS
    | cons i is =>
      unfold pPs at hS
      cases e : aP i ls st with
      | none =>
        rw [e] at hS
        cases hS
      | some r =>
        obtain ⟨l1, s1⟩ := r
        rw [e] at hS
        have hk := aP_kd e
        refine ih hS (pm_step (by rw [hk]; decide) ?_ H)
        unfold aS
        rw [hk]
        show (aP i ls st).map _ = _
        rw [e]
        rfl
/-- an instruction over cells that leaves the locals -/
theorem pm_q {o : Option (List Value × aH)} (hk : aKd i ≠ 4) (ho : aS X (aM X F d) i ls st h = o.map fun q => (ls, q.1, q.2)) (H : pm X F d q f b (i :: is) ls st h out) : ∃ st' h', o = some (st', h') ∧ pm X F d q f b is ls st' h' out := by
  obtain ⟨l1, s1, h1, e, H⟩ := pm_inv hk H
  rw [ho] at e
  cases o with
  | none => cases e
  | some r =>
    obtain ⟨s2, h2⟩ := r
    cases e
    exact ⟨_, _, rfl, H⟩
theorem pGetN {k a : Nat} {v : Int32} (hv : M a (k % 1000 / 4) = v) (h2 : k % 4 ≠ 2) (H : pm X F d q f b (.getfield k :: is) ls (.ref a :: st) (pH K M) out) : pm X F d q f b is ls (.int v :: st) (pH K M) out := by
  obtain ⟨s1, h1, e, H⟩ := pm_q (o := if a < 230 ∧ (K a).1 = k / 1000 % 100 then some ((if k % 4 = 2 then aRf ((K a).2.2 (k % 1000 / 4)) else .int (M a (k % 1000 / 4))) :: st, pH K M) else none) (by show (1 : Nat) ≠ 4; decide) rfl H
  have e := (pMa e).2
  rw [if_neg h2, hv] at e
  cases e
  exact H
theorem pGetR {k a r : Nat} (hr : (K a).2.2 (k % 1000 / 4) = some r) (h2 : k % 4 = 2) (H : pm X F d q f b (.getfield k :: is) ls (.ref a :: st) (pH K M) out) : pm X F d q f b is ls (.ref r :: st) (pH K M) out := by
  obtain ⟨s1, h1, e, H⟩ := pm_q (o := if a < 230 ∧ (K a).1 = k / 1000 % 100 then some ((if k % 4 = 2 then aRf ((K a).2.2 (k % 1000 / 4)) else .int (M a (k % 1000 / 4))) :: st, pH K M) else none) (by show (1 : Nat) ≠ 4; decide) rfl H
  have e := (pMa e).2
  rw [if_pos h2, hr] at e
  cases e
  exact H
theorem pPutN {k a j : Nat} {x : Int32} (hj : k % 1000 / 4 = j) (H : pm X F d q f b (.putfield k :: is) ls (.int x :: .ref a :: st) (pH K M) out) : ∃ M2, M2 = aPut M a j x ∧ pm X F d q f b is ls st (pH K M2) out := by
  obtain ⟨s1, h1, e, H⟩ := pm_q (o := if a < 230 ∧ (K a).1 = k / 1000 % 100 ∧ (k % 4 = 0 ∨ k % 4 = 1 ∧ (x = 0 ∨ x = 1)) then some (st, (230, 108808, K, aPut M a (k % 1000 / 4) x)) else none) (by show (1 : Nat) ≠ 4; decide) rfl H
  rw [hj] at e
  split at e
  · cases e
    exact ⟨_, rfl, H⟩
  · cases e
theorem pIn_of {j : Int32} {n : Nat} (h : aInR j n = true) : pIn j n := by
  have := of_decide_eq_true (show decide (0 ≤ j.toInt ∧ j.toInt < (n : Int)) = true from h)
  exact this
theorem pIld {a n : Nat} {j : Int32} (ha : a < 230) (hn : (K a).2.1 = n) (H : pm X F d q f b (.iaload :: is) ls (.int j :: .ref a :: st) (pH K M) out) : pIn j n ∧ pm X F d q f b is ls (.int (M a (ix j)) :: st) (pH K M) out := by
  obtain ⟨s1, h1, e, H⟩ := pm_q (o := if a = 90000 then (if aInR j X.1 then some (.int (X.2 j.toNatClampNeg) :: st, pH K M) else none)
      else if a < 230 ∧ (K a).1 = 100 ∧ aInR j (K a).2.1 then some (.int (M a j.toNatClampNeg) :: st, pH K M) else none) (by decide) rfl H
  rw [if_neg (by omega)] at e
  split at e
  · rename_i c
    cases e
    rw [hn] at c
    exact ⟨pIn_of c.2.2, H⟩
  · cases e
theorem pBld {a n : Nat} {j : Int32} (hn : (K a).2.1 = n) (H : pm X F d q f b (.baload :: is) ls (.int j :: .ref a :: st) (pH K M) out) : pIn j n ∧ pm X F d q f b is ls (.int (M a (ix j)) :: st) (pH K M) out := by
  obtain ⟨s1, h1, e, H⟩ := pm_q (o := if a < 230 ∧ (K a).1 = 101 ∧ aInR j (K a).2.1 then some (.int (M a j.toNatClampNeg) :: st, pH K M) else none) (by decide) rfl H
  split at e
  · rename_i c
    cases e
    rw [hn] at c
    exact ⟨pIn_of c.2.2, H⟩
  · cases e
theorem pIst {a n : Nat} {j x : Int32} (hn : (K a).2.1 = n) (H : pm X F d q f b (.iastore :: is) ls (.int x :: .int j :: .ref a :: st) (pH K M) out) : pIn j n ∧ ∃ M2, M2 = aPut M a (ix j) x ∧ pm X F d q f b is ls st (pH K M2) out := by
  obtain ⟨s1, h1, e, H⟩ := pm_q (o := if a < 230 ∧ (K a).1 = 100 ∧ aInR j (K a).2.1 then some (st, (230, 108808, K, aPut M a j.toNatClampNeg x)) else none) (by decide) rfl H
  split at e
  · rename_i c
    cases e
    rw [hn] at c
    exact ⟨pIn_of c.2.2, _, rfl, H⟩
  · cases e
theorem pBst {a n : Nat} {j x : Int32} (hn : (K a).2.1 = n) (H : pm X F d q f b (.bastore :: is) ls (.int x :: .int j :: .ref a :: st) (pH K M) out) : pIn j n ∧ ∃ M2, M2 = aPut M a (ix j) x ∧ pm X F d q f b is ls st (pH K M2) out := by
  obtain ⟨s1, h1, e, H⟩ := pm_q (o := if a < 230 ∧ (K a).1 = 101 ∧ aInR j (K a).2.1 ∧ (x = 0 ∨ x = 1) then some (st, (230, 108808, K, aPut M a j.toNatClampNeg x)) else none) (by decide) rfl H
  split at e
  · rename_i c
    cases e
    rw [hn] at c
    exact ⟨pIn_of c.2.2.1, _, rfl, H⟩
  · cases e
theorem pAld {a n r : Nat} {j : Int32} (hn : (K a).2.1 = n) (hr : pIn j n → (K a).2.2 (ix j) = some r) (H : pm X F d q f b (.aaload :: is) ls (.int j :: .ref a :: st) (pH K M) out) : pIn j n ∧ pm X F d q f b is ls (.ref r :: st) (pH K M) out := by
  obtain ⟨s1, h1, e, H⟩ := pm_q (o := if a < 230 ∧ (102 ≤ (K a).1 ∧ (K a).1 < 106) ∧ aInR j (K a).2.1 then some (aRf ((K a).2.2 j.toNatClampNeg) :: st, pH K M) else none) (by decide) rfl H
  split at e
  · rename_i c
    rw [hn] at c
    have c := pIn_of c.2.2
    rw [show j.toNatClampNeg = ix j from rfl, hr c] at e
    cases e
    exact ⟨c, H⟩
  · cases e
theorem pAln {a n : Nat} (ha : a < 230) (hn : (K a).2.1 = n) (H : pm X F d q f b (.arraylength :: is) ls (.ref a :: st) (pH K M) out) : pm X F d q f b is ls (.int (Int32.ofNat n) :: st) (pH K M) out := by
  obtain ⟨s1, h1, e, H⟩ := pm_q (o := if a = 90000 then some (.int (Int32.ofNat X.1) :: st, pH K M) else if a < 230 ∧ (100 ≤ (K a).1 ∧ (K a).1 < 106) then some (.int (Int32.ofNat (K a).2.1) :: st, pH K M) else none) (by decide) rfl H
  rw [if_neg (by omega), hn] at e
  split at e
  · cases e
    exact H
  · cases e
theorem pXld {j : Int32} (H : pm X F d q f b (.iaload :: is) ls (.int j :: .ref 90000 :: st) (pH K M) out) : pIn j X.1 ∧ pm X F d q f b is ls (.int (X.2 (ix j)) :: st) (pH K M) out := by
  obtain ⟨s1, h1, e, H⟩ := pm_q (o := if aInR j X.1 then some (.int (X.2 j.toNatClampNeg) :: st, pH K M) else none) (by decide) rfl H
  split at e
  · rename_i c
    cases e
    exact ⟨pIn_of c, H⟩
  · cases e
theorem pXln (H : pm X F d q f b (.arraylength :: is) ls (.ref 90000 :: st) (pH K M) out) : pm X F d q f b is ls (.int (Int32.ofNat X.1) :: st) (pH K M) out := by
  obtain ⟨s1, h1, e, H⟩ := pm_q (o := some (.int (Int32.ofNat X.1) :: st, pH K M)) (by decide) rfl H
  cases e
  exact H
theorem pP1 {o : Option (List Value × List Value)} (hk : aKd i = 0) (ho : aP i ls st = o) (H : pm X F d q f b (i :: is) ls st h out) : ∃ ls' st', o = some (ls', st') ∧ pm X F d q f b is ls' st' h out := by
  obtain ⟨l1, s1, h1, e, H⟩ := pm_inv (by rw [hk]; decide) H
  unfold aS at e
  rw [hk] at e
  replace e : (aP i ls st).map (fun q => (q.1, q.2, h)) = some (l1, s1, h1) := e
  rw [ho] at e
  cases o with
  | none => cases e
  | some r =>
    obtain ⟨l3, s3⟩ := r
    cases e
    exact ⟨_, _, rfl, H⟩
theorem pDiv {x y : Int32} (H : pm X F d q f b (.idiv :: is) ls (.int y :: .int x :: st) h out) : ¬ y = 0 ∧ pm X F d q f b is ls (.int (x / y) :: st) h out := by
  obtain ⟨l1, s1, e, H⟩ := pP1 (o := if y = 0 then none else some (ls, .int (x / y) :: st)) rfl rfl H
  split at e
  · cases e
  · rename_i c
    cases e
    exact ⟨c, H⟩
theorem pRmd {x y : Int32} (H : pm X F d q f b (.irem :: is) ls (.int y :: .int x :: st) h out) : ¬ y = 0 ∧ pm X F d q f b is ls (.int (pRem x y) :: st) h out := by
  obtain ⟨l1, s1, e, H⟩ := pP1 (o := if y = 0 then none else some (ls, .int (x - x / y * y) :: st)) rfl rfl H
  split at e
  · cases e
  · rename_i c
    cases e
    exact ⟨c, H⟩
theorem pLdv {x y : Int64} (H : pm X F d q f b (.ldiv :: is) ls (.long y :: .long x :: st) h out) : ¬ y = 0 ∧ pm X F d q f b is ls (.long (x / y) :: st) h out := by
  obtain ⟨l1, s1, e, H⟩ := pP1 (o := if y = 0 then none else some (ls, .long (x / y) :: st)) rfl rfl H
  split at e
  · cases e
  · rename_i c
    cases e
    exact ⟨c, H⟩
theorem pLdc {k : Nat} {x : Int} (hx : Int32.ofNat (k % 4294967296) = kI x) (H : pm X F d q f b (.ldc_w k :: is) ls st h out) : pm X F d q f b is ls (.int (kI x) :: st) h out := by
  obtain ⟨l1, s1, e, H⟩ := pP1 (o := some (ls, .int (Int32.ofNat (k % 4294967296)) :: st)) rfl rfl H
  rw [hx] at e
  cases e
  exact H
theorem pLd2 {k : Nat} {x : Int} (hx : Int64.ofNat (k % 18446744073709551616) = Int64.ofInt x) (H : pm X F d q f b (.ldc2_w k :: is) ls st h out) : pm X F d q f b is ls (.long (Int64.ofInt x) :: st) h out := by
  obtain ⟨l1, s1, e, H⟩ := pP1 (o := some (ls, .long (Int64.ofNat (k % 18446744073709551616)) :: st)) rfl rfl H
  rw [hx] at e
  cases e
  exact H
theorem pLds {k r : Nat} (hr : 90001 + k % 100 = r) (H : pm X F d q f b (.ldc k :: is) ls st h out) : pm X F d q f b is ls (.ref r :: st) h out := by
  obtain ⟨l1, s1, e, H⟩ := pP1 (o := some (ls, .ref (90001 + k % 100) :: st)) rfl rfl H
  rw [hr] at e
  cases e
  exact H
/-! calls -/
theorem aGo_inv {cal : Nat → List Value → aH → Option (Option Value × aH)} {y : Nat} {as rest : List Value} {r : List Value × aH} (e : aGo cal y as rest ls h = some r) : ∃ rv h', cal y as h = some (rv, h') ∧ r = (rv.toList ++ rest, h') := by
  unfold aGo at e
  split at e
  · cases c : cal y as h with
    | none =>
      rw [c] at e
      cases e
    | some p =>
      obtain ⟨rv, h1⟩ := p
      rw [c] at e
      replace e : (if h1.1 = h.1 ∨ (ls ++ rest).all (aOkv h.1) = true then some (rv.toList ++ rest, h1) else none) = some r := e
      split at e
      · cases e
        exact ⟨rv, h1, rfl, rfl⟩
      · cases e
  · cases e
theorem pCalT {k : Nat} (q' na : Nat) {as rest : List Value} (hq : k % 1000 = q') (hl : q' < 900) (hn : aNA q' = na) (ha : (st.take na).reverse = as) (hr : st.drop na = rest) (H : pm X F d q f b (.invokestatic k :: is) ls st h out) : ∃ rv h', aM X F d q' as h = some (rv, h') ∧ pm X F d q f b is ls (rv.toList ++ rest) h' out := by
  subst hq
  obtain ⟨s1, h1, e, H⟩ := pm_q (o := aV (aM X F d) (.invokestatic k) ls st h) (by show (3 : Nat) ≠ 4; decide) rfl H
  unfold aV at e
  replace e : (if k % 1000 = 902 then aCopy st h else if 904 ≤ k % 1000 ∧ k % 1000 < 909 then aMath (k % 1000) st h else if (st.take (aNA (k % 1000))).length = aNA (k % 1000) ∧ aCI (k % 1000) = 100 then aGo (aM X F d) (k % 1000) (st.take (aNA (k % 1000))).reverse (st.drop (aNA (k % 1000))) ls h else none) = some (s1, h1) := e
  rw [if_neg (by omega), if_neg (by omega), hn, ha, hr] at e
  split at e
  · obtain ⟨rv, h2, c1, c2⟩ := aGo_inv e
    cases c2
    exact ⟨rv, _, c1, H⟩
  · cases e
theorem pCalV {k : Nat} (q' na a : Nat) {as rest : List Value} (hq : k % 1000 = q') (hl : q' < 900) (hn : aNA q' = na) (ha : (st.take na).reverse = as) (hr : st.drop na = .ref a :: rest) (H : pm X F d q f b (.invokevirtual k :: is) ls st h out) : ∃ rv h', aM X F d q' (.ref a :: as) h = some (rv, h') ∧ pm X F d q f b is ls (rv.toList ++ rest) h' out := by
  subst hq
  obtain ⟨s1, h1, e, H⟩ := pm_q (o := aV (aM X F d) (.invokevirtual k) ls st h) (by show (3 : Nat) ≠ 4; decide) rfl H
  unfold aV at e
  dsimp only at e
  rw [if_neg (by omega), if_neg (by omega), hn, ha, hr] at e
  dsimp only at e
  split at e
  · obtain ⟨rv, h2, c1, c2⟩ := aGo_inv e
    cases c2
    exact ⟨rv, _, c1, H⟩
  · cases e
/-- what a callee's word gives: a plain number; a number, nothing, a long behind a change -/
theorem pUseF {rv : Option Value} {h1 h2 : aH} {v : Value} {rest : List Value} (e : (rv, h1) = (some v, h2)) (H : pm X F d q f b is ls (rv.toList ++ rest) h1 out) : pm X F d q f b is ls (v :: rest) h2 out := by
  obtain ⟨e1, e2⟩ := Prod.mk.inj e
  rw [e1, e2] at H
  exact H
theorem pUseI {rv : Option Value} {h1 : aH} {rest : List Value} {A : pT Int32} (e : pG eI K (rv, h1) A) (H : pm X F d q f b is ls (rv.toList ++ rest) h1 out) : ∃ v N, A v N ∧ pm X F d q f b is ls (.int v :: rest) (pH K N) out := by
  obtain ⟨v, N, e, k⟩ := e
  obtain ⟨e1, e2⟩ := Prod.mk.inj e
  rw [e1, e2] at H
  exact ⟨v, N, k, H⟩
theorem pUseL {rv : Option Value} {h1 : aH} {rest : List Value} {A : pT Int64} (e : pG eL K (rv, h1) A) (H : pm X F d q f b is ls (rv.toList ++ rest) h1 out) : ∃ v N, A v N ∧ pm X F d q f b is ls (.long v :: rest) (pH K N) out := by
  obtain ⟨v, N, e, k⟩ := e
  obtain ⟨e1, e2⟩ := Prod.mk.inj e
  rw [e1, e2] at H
  exact ⟨v, N, k, H⟩
theorem pUseU {rv : Option Value} {h1 : aH} {rest : List Value} {A : pT Unit} (e : pG eU K (rv, h1) A) (H : pm X F d q f b is ls (rv.toList ++ rest) h1 out) : ∃ v N, A v N ∧ pm X F d q f b is ls rest (pH K N) out := by
  obtain ⟨v, N, e, k⟩ := e
  obtain ⟨e1, e2⟩ := Prod.mk.inj e
  rw [e1, e2] at H
  exact ⟨v, N, k, H⟩
theorem pUseR {rv : Option Value} {h1 : aH} {rest : List Value} {A : pT Nat} (e : pG eR K (rv, h1) A) (H : pm X F d q f b is ls (rv.toList ++ rest) h1 out) : ∃ v N, A v N ∧ pm X F d q f b is ls (.ref v :: rest) (pH K N) out := by
  obtain ⟨v, N, e, k⟩ := e
  obtain ⟨e1, e2⟩ := Prod.mk.inj e
  rw [e1, e2] at H
  exact ⟨v, N, k, H⟩
/-- a method that answers always one cell -/
def eK (r : Nat) : Unit → Option Value := fun _ => some (.ref r)
theorem pUseK {r : Nat} {rv : Option Value} {h1 : aH} {rest : List Value} {A : pT Unit} (e : pG (eK r) K (rv, h1) A) (H : pm X F d q f b is ls (rv.toList ++ rest) h1 out) : ∃ v N, A v N ∧ pm X F d q f b is ls (.ref r :: rest) (pH K N) out := by
  obtain ⟨v, N, e, k⟩ := e
  obtain ⟨e1, e2⟩ := Prod.mk.inj e
  rw [e1, e2] at H
  exact ⟨v, N, k, H⟩
theorem pMath {k m : Nat} {st' : List Value} (hk : k % 1000 = m) (hm : 904 ≤ m ∧ m < 909) (hS : ∀ r, aMath m st h = some r → r = (st', h)) (H : pm X F d q f b (.invokestatic k :: is) ls st h out) : pm X F d q f b is ls st' h out := by
  subst hk
  obtain ⟨s1, h1, e, H⟩ := pm_q (o := aV (aM X F d) (.invokestatic k) ls st h) (by show (3 : Nat) ≠ 4; decide) rfl H
  unfold aV at e
  dsimp only at e
  rw [if_neg (by omega), if_pos hm] at e
  cases hS _ e
  exact H
theorem pAbsI {k : Nat} {x : Int32} (hk : k % 1000 = 904) (H : pm X F d q f b (.invokestatic k :: is) ls (.int x :: st) h out) : pm X F d q f b is ls (.int (pAbs x) :: st) h out :=
  pMath (st := .int x :: st) hk (by decide) (fun _ e => (pMa e).2) H
theorem pMinI {k : Nat} {x y : Int32} (hk : k % 1000 = 907) (H : pm X F d q f b (.invokestatic k :: is) ls (.int y :: .int x :: st) h out) : pm X F d q f b is ls (.int (pMnI x y) :: st) h out :=
  pMath (st := .int y :: .int x :: st) hk (by decide) (fun _ e => (pMa e).2) H
theorem pMaxL {k : Nat} {x y : Int64} (hk : k % 1000 = 906) (H : pm X F d q f b (.invokestatic k :: is) ls (.long y :: .long x :: st) h out) : pm X F d q f b is ls (.long (pMxL x y) :: st) h out :=
  pMath (st := .long y :: .long x :: st) hk (by decide) (fun _ e => (pMa e).2) H
theorem pMinL {k : Nat} {x y : Int64} (hk : k % 1000 = 908) (H : pm X F d q f b (.invokestatic k :: is) ls (.long y :: .long x :: st) h out) : pm X F d q f b is ls (.long (pMnL x y) :: st) h out :=
  pMath (st := .long y :: .long x :: st) hk (by decide) (fun _ e => (pMa e).2) H
theorem pFdv {k : Nat} {x y : Int32} (hk : k % 1000 = 905) (H : pm X F d q f b (.invokestatic k :: is) ls (.int y :: .int x :: st) h out) : ¬ y = 0 ∧ pm X F d q f b is ls (.int (pFd x y) :: st) h out := by
  refine ⟨?_, pMath (st := .int y :: .int x :: st) hk (by decide) (fun _ e => (pMa e).2) H⟩
  obtain ⟨s1, h1, e, H⟩ := pm_q (o := aV (aM X F d) (.invokestatic k) ls (.int y :: .int x :: st) h) (by show (3 : Nat) ≠ 4; decide) rfl H
  unfold aV at e
  dsimp only at e
  rw [if_neg (by omega), if_pos (by omega), hk] at e
  exact (pMa e).1.1
theorem pCpy {k a c : Nat} {n dp sp : Int32} (hk : k % 1000 = 902) (H : pm X F d q f b (.invokestatic k :: is) ls (.int n :: .int dp :: .ref a :: .int sp :: .ref c :: st) (pH K M) out) : ∃ M2, M2 = aRow M a (va_cpy (M c) (M a) (ix sp) (ix dp) (ix n)) ∧ pm X F d q f b is ls st (pH K M2) out := by
  obtain ⟨s1, h1, e, H⟩ := pm_q (o := aV (aM X F d) (.invokestatic k) ls (.int n :: .int dp :: .ref a :: .int sp :: .ref c :: st) (pH K M)) (by show (3 : Nat) ≠ 4; decide) rfl H
  unfold aV at e
  dsimp only at e
  rw [if_pos hk] at e
  have e := (pMa e).2
  cases e
  exact ⟨_, rfl, H⟩
theorem pSln {k a : Nat} (hk : k % 1000 = 900) (H : pm X F d q f b (.invokevirtual k :: is) ls (.ref a :: st) h out) : pm X F d q f b is ls (.int (pSl a) :: st) h out := by
  obtain ⟨s1, h1, e, H⟩ := pm_q (o := aV (aM X F d) (.invokevirtual k) ls (.ref a :: st) h) (by show (3 : Nat) ≠ 4; decide) rfl H
  unfold aV at e
  dsimp only at e
  rw [if_pos hk] at e
  have e := (pMa e).2
  cases e
  exact H
theorem pSch {k a : Nat} {j : Int32} (hk : k % 1000 = 901) (H : pm X F d q f b (.invokevirtual k :: is) ls (.int j :: .ref a :: st) h out) : pm X F d q f b is ls (.int (pSc a j) :: st) h out := by
  obtain ⟨s1, h1, e, H⟩ := pm_q (o := aV (aM X F d) (.invokevirtual k) ls (.int j :: .ref a :: st) h) (by show (3 : Nat) ≠ 4; decide) rfl H
  unfold aV at e
  dsimp only at e
  rw [if_neg (by omega), if_pos hk] at e
  have e := (pMa e).2
  cases e
  exact H
/-! ends of blocks -/
theorem pE (hb : (aMC q)[b]? = some l) (H : aE X (aM X F d) (aRT q) (aMC q) f b ls st h = some out) : ∃ g, f = g + 1 ∧ pm X F d q g b l ls st h out := by
  cases f with
  | zero =>
    unfold aE at H
    cases H
  | succ g =>
    refine ⟨g, rfl, ?_⟩
    unfold aE at H
    rw [hb] at H
    unfold pm
    dsimp only at H
    cases e : aB X (aM X F d) (aRT q) b l ls st h with
    | none =>
      rw [e] at H
      cases H
    | some r =>
      rw [e] at H
      rcases r with ⟨b1, l1, s1, h1⟩ | r
      · exact H
      · exact H
theorem pm_inl {b' : Nat} {ls' st' : List Value} {h' : aH} (hk : aKd i = 4) (hT : aT (aRT q) b i ls st h = some (.inl (b', ls', st', h'))) (H : pm X F d q f b (i :: is) ls st h out) : aE X (aM X F d) (aRT q) (aMC q) f b' ls' st' h' = some out := by
  unfold pm at H
  unfold aB at H
  rw [if_pos hk, hT] at H
  exact H
theorem pm_inr {r : Option Value × aH} (hk : aKd i = 4) (hT : aT (aRT q) b i ls st h = some (.inr r)) (H : pm X F d q f b (i :: is) ls st h out) : out = r := by
  unfold pm at H
  unfold aB at H
  rw [if_pos hk, hT] at H
  exact (Option.some.inj H).symm
theorem pGo {n : Int} {n1 : Nat} (hn : n.toNat = n1) (hb : (aMC q)[n1]? = some l) (H : pm X F d q f b (.goto n :: is) ls st h out) : ∃ g, f = g + 1 ∧ pm X F d q g n1 l ls st h out := by
  subst hn
  exact pE hb (pm_inl (b' := n.toNat) (ls' := ls) (st' := st) (h' := h) rfl rfl H)
theorem pFall (hb : (aMC q)[b + 1]? = some l) (H : pm X F d q f b [] ls st h out) : ∃ g, f = g + 1 ∧ pm X F d q g (b + 1) l ls st h out := by
  unfold pm at H
  unfold aB at H
  exact pE hb H
theorem pIf0 {c : Jvm.ClassFile.Cond} {n : Int} {n1 : Nat} {x : Int32} (hn : n.toNat = n1) (h1 : (aMC q)[n1]? = some l1) (h2 : (aMC q)[b + 1]? = some l2) (H : pm X F d q f b (.ifCond c n :: is) ls (.int x :: st) h out) :
    (pCd c x 0 ∧ ∃ g, f = g + 1 ∧ pm X F d q g n1 l1 ls st h out) ∨ (¬ pCd c x 0 ∧ ∃ g, f = g + 1 ∧ pm X F d q g (b + 1) l2 ls st h out) := by
  subst hn
  have H := pm_inl (b' := if aCd c x 0 then n.toNat else b + 1) (ls' := ls) (st' := st) (h' := h) rfl rfl H
  by_cases g : aCd c x 0 = true
  · rw [if_pos g] at H
    exact Or.inl ⟨pCd_t g, pE h1 H⟩
  · rw [if_neg g] at H
    exact Or.inr ⟨pCd_f g, pE h2 H⟩
theorem pIfc {c : Jvm.ClassFile.Cond} {n : Int} {n1 : Nat} {x y : Int32} (hn : n.toNat = n1) (h1 : (aMC q)[n1]? = some l1) (h2 : (aMC q)[b + 1]? = some l2) (H : pm X F d q f b (.if_icmp c n :: is) ls (.int y :: .int x :: st) h out) :
    (pCd c x y ∧ ∃ g, f = g + 1 ∧ pm X F d q g n1 l1 ls st h out) ∨ (¬ pCd c x y ∧ ∃ g, f = g + 1 ∧ pm X F d q g (b + 1) l2 ls st h out) := by
  subst hn
  have H := pm_inl (b' := if aCd c x y then n.toNat else b + 1) (ls' := ls) (st' := st) (h' := h) rfl rfl H
  by_cases g : aCd c x y = true
  · rw [if_pos g] at H
    exact Or.inl ⟨pCd_t g, pE h1 H⟩
  · rw [if_neg g] at H
    exact Or.inr ⟨pCd_f g, pE h2 H⟩
theorem pRet_ {r : Option Value × aH} (hk : aKd i = 4) (hT : ∀ p, aT (aRT q) b i ls st h = some p → p = .inr r) (H : pm X F d q f b (i :: is) ls st h out) : out = r := by
  cases e : aT (aRT q) b i ls st h with
  | none =>
    unfold pm at H
    unfold aB at H
    rw [if_pos hk, e] at H
    cases H
  | some p =>
    have := hT p e
    subst this
    exact pm_inr hk e H
theorem pRetI {x : Int32} (H : pm X F d q f b (.ireturn :: is) ls [.int x] h out) : out = (some (.int x), h) :=
  pRet_ (b := b) (i := .ireturn) (ls := ls) (st := [.int x]) (h := h) (r := (some (.int x), h)) rfl (fun p e => (pMa (x := (Sum.inr (some (.int x), h) : aR)) e).2) H
theorem pRetL {x : Int64} (H : pm X F d q f b (.lreturn :: is) ls [.long x] h out) : out = (some (.long x), h) :=
  pRet_ (b := b) (i := .lreturn) (ls := ls) (st := [.long x]) (h := h) (r := (some (.long x), h)) rfl (fun p e => (pMa (x := (Sum.inr (some (.long x), h) : aR)) e).2) H
theorem pRetR {x : Nat} (H : pm X F d q f b (.areturn :: is) ls [.ref x] h out) : out = (some (.ref x), h) :=
  pRet_ (b := b) (i := .areturn) (ls := ls) (st := [.ref x]) (h := h) (r := (some (.ref x), h)) rfl (fun p e => (pMa (x := (Sum.inr (some (.ref x), h) : aR)) e).2) H
theorem pRetU (H : pm X F d q f b (.return_ :: is) ls [] h out) : out = (none, h) :=
  pRet_ (b := b) (i := .return_) (ls := ls) (st := []) (h := h) (r := (none, h)) rfl (fun p e => (pMa (x := (Sum.inr (none, h) : aR)) e).2) H
end PM
section PM2
variable {X : aX} {F d q f b : Nat} {is l : List aI} {ls st as : List Value} {h : aH} {out : Option Value × aH}
theorem pEnt {n : Nat} (hb : (aMC q)[0]? = some l) (hn : aML q = n) (hl : aEn as n = ls) (H : aM X F d q as h = some out) : ∃ d' g, d = d' + 1 ∧ pm X F d' q g 0 l ls [] h out := by
  cases d with
  | zero =>
    unfold aM at H
    cases H
  | succ d' =>
    unfold aM at H
    split at H
    · rw [hn, hl] at H
      obtain ⟨g, _, H⟩ := pE hb H
      exact ⟨d', g, rfl, H⟩
    · cases H
/-! switches -/
theorem pTs {dd lo hi : Int} {offs : Array Int} {x : Int32} (H : pm X F d q f b (.tableswitch dd lo hi offs :: is) ls (.int x :: st) h out) :
    (x.toInt < lo ∨ hi < x.toInt) ∧ aE X (aM X F d) (aRT q) (aMC q) f dd.toNat ls st h = some out ∨ ∃ o, (¬ (x.toInt < lo ∨ hi < x.toInt)) ∧ offs[(x.toInt - lo).toNat]? = some o ∧ aE X (aM X F d) (aRT q) (aMC q) f o.toNat ls st h = some out := by
  by_cases g : x.toInt < lo ∨ hi < x.toInt
  · exact Or.inl ⟨g, pm_inl (i := .tableswitch dd lo hi offs) (ls := ls) (st := .int x :: st) (h := h) (b' := dd.toNat) (ls' := ls) (st' := st) (h' := h) rfl (if_pos g) H⟩
  · cases e : offs[(x.toInt - lo).toNat]? with
    | none =>
      unfold pm at H
      unfold aB at H
      rw [if_pos (show aKd (.tableswitch dd lo hi offs) = 4 from rfl)] at H
      have e2 : aT (aRT q) b (.tableswitch dd lo hi offs) ls (.int x :: st) h = none := by
        show (if x.toInt < lo ∨ hi < x.toInt then _ else match offs[(x.toInt - lo).toNat]? with
          | some o => some (Sum.inl (o.toNat, ls, st, h))
          | none => none) = none
        rw [if_neg g, e]
      rw [e2] at H
      cases H
    | some o =>
      refine Or.inr ⟨o, g, rfl, pm_inl (b' := o.toNat) (ls' := ls) (st' := st) (h' := h) rfl ?_ H⟩
      show (if x.toInt < lo ∨ hi < x.toInt then _ else match offs[(x.toInt - lo).toNat]? with
        | some o => some (Sum.inl (o.toNat, ls, st, h))
        | none => none) = _
      rw [if_neg g, e]
theorem pTsC {dd lo hi : Int} {offs : Array Int} {x : Int32} {v : Int} {n1 : Nat} (hx : x = kI v) (hv : (kI v).toInt = v ∧ lo ≤ v ∧ v ≤ hi) (ho : (offs[(v - lo).toNat]?).map Int.toNat = some n1) (hb : (aMC q)[n1]? = some l) (H : pm X F d q f b (.tableswitch dd lo hi offs :: is) ls (.int x :: st) h out) : ∃ g, f = g + 1 ∧ pm X F d q g n1 l ls st h out := by
  subst hx
  rcases pTs H with ⟨g, _⟩ | ⟨o, _, e, H⟩
  · rw [hv.1] at g
    omega
  · rw [hv.1] at e
    rw [e] at ho
    cases ho
    exact pE hb H
theorem pTsD {dd lo hi : Int} {offs : Array Int} {x : Int32} {n1 : Nat} (hx : ∀ v : Int, lo ≤ v → v ≤ hi → ¬ x = kI v) (hd : dd.toNat = n1) (hb : (aMC q)[n1]? = some l) (H : pm X F d q f b (.tableswitch dd lo hi offs :: is) ls (.int x :: st) h out) : ∃ g, f = g + 1 ∧ pm X F d q g n1 l ls st h out := by
  subst hd
  rcases pTs H with ⟨_, H⟩ | ⟨o, g, _, _⟩
  · exact pE hb H
  · exact absurd (show x = kI x.toInt from (Int32.ofInt_toInt x).symm) (hx _ (by omega) (by omega))
theorem pLs {dd : Int} {ps : Array (Int × Int)} {x : Int32} {n1 : Nat} (ho : (Op.lookupswitch.offset ps.toList dd x.toInt).toNat = n1) (hb : (aMC q)[n1]? = some l) (H : pm X F d q f b (.lookupswitch dd ps :: is) ls (.int x :: st) h out) : ∃ g, f = g + 1 ∧ pm X F d q g n1 l ls st h out := by
  subst ho
  exact pE hb (pm_inl (b' := (Op.lookupswitch.offset ps.toList dd x.toInt).toNat) (ls' := ls) (st' := st) (h' := h) rfl rfl H)
end PM2
/-! the cells -/
def pC (a : Nat) : Nat × Nat × List Nat := bif Nat.blt a 115 then (bif Nat.blt a 57 then (bif Nat.blt a 28 then (bif Nat.blt a 14 then (bif Nat.blt a 7 then (bif Nat.blt a 3 then (bif Nat.blt a 1 then ((11, 0, [1, 6, 18, 74, 130, 133, 138, 173, 999])) else (bif Nat.blt a 2 then ((7, 0, [999, 999, 2, 3, 4, 5])) else ((100, 500, [])))) else (bif Nat.blt a 5 then (bif Nat.blt a 4 then ((100, 500, [])) else ((100, 500, []))) else (bif Nat.blt a 6 then ((100, 500, [])) else ((5, 0, [1, 7, 14, 999, 999, 999]))))) else (bif Nat.blt a 10 then (bif Nat.blt a 8 then ((2, 0, [999, 999, 8, 9, 10, 11, 12, 13])) else (bif Nat.blt a 9 then ((100, 16, [])) else ((100, 16, [])))) else (bif Nat.blt a 12 then (bif Nat.blt a 11 then ((100, 16, [])) else ((100, 16, []))) else (bif Nat.blt a 13 then ((100, 500, [])) else ((100, 32, [])))))) else (bif Nat.blt a 21 then (bif Nat.blt a 17 then (bif Nat.blt a 15 then ((3, 0, [999, 999, 15, 16, 17])) else (bif Nat.blt a 16 then ((100, 24, [])) else ((100, 24, [])))) else (bif Nat.blt a 19 then (bif Nat.blt a 18 then ((100, 24, [])) else ((9, 0, [19, 24, 25, 26, 27, 28, 29, 999, 999]))) else (bif Nat.blt a 20 then ((10, 0, [999, 999, 999, 999, 999, 999, 999, 999, 999, 999, 999, 999, 20, 21, 22, 23])) else ((100, 24, []))))) else (bif Nat.blt a 24 then (bif Nat.blt a 22 then ((100, 24, [])) else (bif Nat.blt a 23 then ((100, 576, [])) else ((100, 18, [])))) else (bif Nat.blt a 26 then (bif Nat.blt a 25 then ((102, 4, [30, 41, 52, 63])) else ((103, 4, [37, 48, 59, 70]))) else (bif Nat.blt a 27 then ((100, 480, [])) else ((100, 5, []))))))) else (bif Nat.blt a 42 then (bif Nat.blt a 35 then (bif Nat.blt a 31 then (bif Nat.blt a 29 then ((100, 24, [])) else (bif Nat.blt a 30 then ((100, 24, [])) else ((2, 0, [999, 999, 31, 32, 33, 34, 35, 36])))) else (bif Nat.blt a 33 then (bif Nat.blt a 32 then ((100, 16, [])) else ((100, 16, []))) else (bif Nat.blt a 34 then ((100, 16, [])) else ((100, 16, []))))) else (bif Nat.blt a 38 then (bif Nat.blt a 36 then ((100, 500, [])) else (bif Nat.blt a 37 then ((100, 32, [])) else ((3, 0, [999, 999, 38, 39, 40])))) else (bif Nat.blt a 40 then (bif Nat.blt a 39 then ((100, 24, [])) else ((100, 24, []))) else (bif Nat.blt a 41 then ((100, 24, [])) else ((2, 0, [999, 999, 42, 43, 44, 45, 46, 47])))))) else (bif Nat.blt a 49 then (bif Nat.blt a 45 then (bif Nat.blt a 43 then ((100, 16, [])) else (bif Nat.blt a 44 then ((100, 16, [])) else ((100, 16, [])))) else (bif Nat.blt a 47 then (bif Nat.blt a 46 then ((100, 16, [])) else ((100, 500, []))) else (bif Nat.blt a 48 then ((100, 32, [])) else ((3, 0, [999, 999, 49, 50, 51]))))) else (bif Nat.blt a 53 then (bif Nat.blt a 51 then (bif Nat.blt a 50 then ((100, 24, [])) else ((100, 24, []))) else (bif Nat.blt a 52 then ((100, 24, [])) else ((2, 0, [999, 999, 53, 54, 55, 56, 57, 58])))) else (bif Nat.blt a 55 then (bif Nat.blt a 54 then ((100, 16, [])) else ((100, 16, []))) else (bif Nat.blt a 56 then ((100, 16, [])) else ((100, 16, [])))))))) else (bif Nat.blt a 86 then (bif Nat.blt a 71 then (bif Nat.blt a 64 then (bif Nat.blt a 60 then (bif Nat.blt a 58 then ((100, 500, [])) else (bif Nat.blt a 59 then ((100, 32, [])) else ((3, 0, [999, 999, 60, 61, 62])))) else (bif Nat.blt a 62 then (bif Nat.blt a 61 then ((100, 24, [])) else ((100, 24, []))) else (bif Nat.blt a 63 then ((100, 24, [])) else ((2, 0, [999, 999, 64, 65, 66, 67, 68, 69]))))) else (bif Nat.blt a 67 then (bif Nat.blt a 65 then ((100, 16, [])) else (bif Nat.blt a 66 then ((100, 16, [])) else ((100, 16, [])))) else (bif Nat.blt a 69 then (bif Nat.blt a 68 then ((100, 16, [])) else ((100, 500, []))) else (bif Nat.blt a 70 then ((100, 32, [])) else ((3, 0, [999, 999, 71, 72, 73])))))) else (bif Nat.blt a 78 then (bif Nat.blt a 74 then (bif Nat.blt a 72 then ((100, 24, [])) else (bif Nat.blt a 73 then ((100, 24, [])) else ((100, 24, [])))) else (bif Nat.blt a 76 then (bif Nat.blt a 75 then ((9, 0, [75, 80, 81, 82, 83, 84, 85, 999, 999])) else ((10, 0, [999, 999, 999, 999, 999, 999, 999, 999, 999, 999, 999, 999, 76, 77, 78, 79]))) else (bif Nat.blt a 77 then ((100, 24, [])) else ((100, 24, []))))) else (bif Nat.blt a 82 then (bif Nat.blt a 80 then (bif Nat.blt a 79 then ((100, 576, [])) else ((100, 18, []))) else (bif Nat.blt a 81 then ((102, 4, [86, 97, 108, 119])) else ((103, 4, [93, 104, 115, 126])))) else (bif Nat.blt a 84 then (bif Nat.blt a 83 then ((100, 480, [])) else ((100, 5, []))) else (bif Nat.blt a 85 then ((100, 24, [])) else ((100, 24, []))))))) else (bif Nat.blt a 100 then (bif Nat.blt a 93 then (bif Nat.blt a 89 then (bif Nat.blt a 87 then ((2, 0, [999, 999, 87, 88, 89, 90, 91, 92])) else (bif Nat.blt a 88 then ((100, 16, [])) else ((100, 16, [])))) else (bif Nat.blt a 91 then (bif Nat.blt a 90 then ((100, 16, [])) else ((100, 16, []))) else (bif Nat.blt a 92 then ((100, 500, [])) else ((100, 32, []))))) else (bif Nat.blt a 96 then (bif Nat.blt a 94 then ((3, 0, [999, 999, 94, 95, 96])) else (bif Nat.blt a 95 then ((100, 24, [])) else ((100, 24, [])))) else (bif Nat.blt a 98 then (bif Nat.blt a 97 then ((100, 24, [])) else ((2, 0, [999, 999, 98, 99, 100, 101, 102, 103]))) else (bif Nat.blt a 99 then ((100, 16, [])) else ((100, 16, [])))))) else (bif Nat.blt a 107 then (bif Nat.blt a 103 then (bif Nat.blt a 101 then ((100, 16, [])) else (bif Nat.blt a 102 then ((100, 16, [])) else ((100, 500, [])))) else (bif Nat.blt a 105 then (bif Nat.blt a 104 then ((100, 32, [])) else ((3, 0, [999, 999, 105, 106, 107]))) else (bif Nat.blt a 106 then ((100, 24, [])) else ((100, 24, []))))) else (bif Nat.blt a 111 then (bif Nat.blt a 109 then (bif Nat.blt a 108 then ((100, 24, [])) else ((2, 0, [999, 999, 109, 110, 111, 112, 113, 114]))) else (bif Nat.blt a 110 then ((100, 16, [])) else ((100, 16, [])))) else (bif Nat.blt a 113 then (bif Nat.blt a 112 then ((100, 16, [])) else ((100, 16, []))) else (bif Nat.blt a 114 then ((100, 500, [])) else ((100, 32, []))))))))) else (bif Nat.blt a 172 then (bif Nat.blt a 143 then (bif Nat.blt a 129 then (bif Nat.blt a 122 then (bif Nat.blt a 118 then (bif Nat.blt a 116 then ((3, 0, [999, 999, 116, 117, 118])) else (bif Nat.blt a 117 then ((100, 24, [])) else ((100, 24, [])))) else (bif Nat.blt a 120 then (bif Nat.blt a 119 then ((100, 24, [])) else ((2, 0, [999, 999, 120, 121, 122, 123, 124, 125]))) else (bif Nat.blt a 121 then ((100, 16, [])) else ((100, 16, []))))) else (bif Nat.blt a 125 then (bif Nat.blt a 123 then ((100, 16, [])) else (bif Nat.blt a 124 then ((100, 16, [])) else ((100, 500, [])))) else (bif Nat.blt a 127 then (bif Nat.blt a 126 then ((100, 32, [])) else ((3, 0, [999, 999, 127, 128, 129]))) else (bif Nat.blt a 128 then ((100, 24, [])) else ((100, 24, [])))))) else (bif Nat.blt a 136 then (bif Nat.blt a 132 then (bif Nat.blt a 130 then ((100, 24, [])) else (bif Nat.blt a 131 then ((0, 0, [131])) else ((4, 0, [132])))) else (bif Nat.blt a 134 then (bif Nat.blt a 133 then ((100, 14, [])) else ((6, 0, [134, 136, 137]))) else (bif Nat.blt a 135 then ((4, 0, [135])) else ((100, 14, []))))) else (bif Nat.blt a 139 then (bif Nat.blt a 137 then ((100, 3, [])) else (bif Nat.blt a 138 then ((100, 3, [])) else ((8, 0, [130, 139, 999, 999, 140, 141, 142, 999, 999, 999])))) else (bif Nat.blt a 141 then (bif Nat.blt a 140 then ((104, 6, [143, 148, 153, 158, 163, 168])) else ((100, 5, []))) else (bif Nat.blt a 142 then ((100, 5, [])) else ((100, 120, []))))))) else (bif Nat.blt a 157 then (bif Nat.blt a 150 then (bif Nat.blt a 146 then (bif Nat.blt a 144 then ((10, 0, [999, 999, 999, 999, 999, 999, 999, 999, 999, 999, 999, 999, 144, 145, 146, 147])) else (bif Nat.blt a 145 then ((100, 24, [])) else ((100, 24, [])))) else (bif Nat.blt a 148 then (bif Nat.blt a 147 then ((100, 576, [])) else ((100, 18, []))) else (bif Nat.blt a 149 then ((10, 0, [999, 999, 999, 999, 999, 999, 999, 999, 999, 999, 999, 999, 149, 150, 151, 152])) else ((100, 24, []))))) else (bif Nat.blt a 153 then (bif Nat.blt a 151 then ((100, 24, [])) else (bif Nat.blt a 152 then ((100, 576, [])) else ((100, 18, [])))) else (bif Nat.blt a 155 then (bif Nat.blt a 154 then ((10, 0, [999, 999, 999, 999, 999, 999, 999, 999, 999, 999, 999, 999, 154, 155, 156, 157])) else ((100, 24, []))) else (bif Nat.blt a 156 then ((100, 24, [])) else ((100, 576, [])))))) else (bif Nat.blt a 164 then (bif Nat.blt a 160 then (bif Nat.blt a 158 then ((100, 18, [])) else (bif Nat.blt a 159 then ((10, 0, [999, 999, 999, 999, 999, 999, 999, 999, 999, 999, 999, 999, 159, 160, 161, 162])) else ((100, 24, [])))) else (bif Nat.blt a 162 then (bif Nat.blt a 161 then ((100, 24, [])) else ((100, 576, []))) else (bif Nat.blt a 163 then ((100, 18, [])) else ((10, 0, [999, 999, 999, 999, 999, 999, 999, 999, 999, 999, 999, 999, 164, 165, 166, 167]))))) else (bif Nat.blt a 168 then (bif Nat.blt a 166 then (bif Nat.blt a 165 then ((100, 24, [])) else ((100, 24, []))) else (bif Nat.blt a 167 then ((100, 576, [])) else ((100, 18, [])))) else (bif Nat.blt a 170 then (bif Nat.blt a 169 then ((10, 0, [999, 999, 999, 999, 999, 999, 999, 999, 999, 999, 999, 999, 169, 170, 171, 172])) else ((100, 24, []))) else (bif Nat.blt a 171 then ((100, 24, [])) else ((100, 576, [])))))))) else (bif Nat.blt a 201 then (bif Nat.blt a 186 then (bif Nat.blt a 179 then (bif Nat.blt a 175 then (bif Nat.blt a 173 then ((100, 18, [])) else (bif Nat.blt a 174 then ((1, 0, [174])) else ((105, 13, [175, 176, 177, 178, 179, 180, 181, 182, 183, 184, 185, 186, 187])))) else (bif Nat.blt a 177 then (bif Nat.blt a 176 then ((100, 1189, [])) else ((100, 1189, []))) else (bif Nat.blt a 178 then ((100, 1189, [])) else ((100, 1189, []))))) else (bif Nat.blt a 182 then (bif Nat.blt a 180 then ((100, 1189, [])) else (bif Nat.blt a 181 then ((100, 1189, [])) else ((100, 1189, [])))) else (bif Nat.blt a 184 then (bif Nat.blt a 183 then ((100, 1189, [])) else ((100, 1189, []))) else (bif Nat.blt a 185 then ((100, 1189, [])) else ((100, 1189, [])))))) else (bif Nat.blt a 193 then (bif Nat.blt a 189 then (bif Nat.blt a 187 then ((100, 1189, [])) else (bif Nat.blt a 188 then ((100, 1189, [])) else ((12, 0, [999, 999, 999, 999, 999, 189, 190, 191, 192, 193, 194, 195, 196, 197, 198, 199, 200, 999, 999, 999, 999, 999, 201, 202, 999, 999, 999, 999, 999, 203, 204, 205, 206, 207, 208, 209, 210, 211, 999, 999, 212, 999, 999, 999, 999, 999, 213, 214, 215, 216, 217, 999, 218, 219, 999, 999, 999, 999, 220, 221, 999, 999, 999, 999, 999, 999, 999, 222, 999, 999, 223, 999, 224, 225, 226, 227, 228, 999, 229, 999])))) else (bif Nat.blt a 191 then (bif Nat.blt a 190 then ((100, 24, [])) else ((100, 24, []))) else (bif Nat.blt a 192 then ((100, 24, [])) else ((100, 24, []))))) else (bif Nat.blt a 197 then (bif Nat.blt a 195 then (bif Nat.blt a 194 then ((100, 24, [])) else ((100, 576, []))) else (bif Nat.blt a 196 then ((100, 576, [])) else ((100, 2, [])))) else (bif Nat.blt a 199 then (bif Nat.blt a 198 then ((100, 2, [])) else ((100, 2, []))) else (bif Nat.blt a 200 then ((100, 2, [])) else ((100, 2, []))))))) else (bif Nat.blt a 215 then (bif Nat.blt a 208 then (bif Nat.blt a 204 then (bif Nat.blt a 202 then ((100, 480, [])) else (bif Nat.blt a 203 then ((100, 500, [])) else ((100, 156, [])))) else (bif Nat.blt a 206 then (bif Nat.blt a 205 then ((100, 5, [])) else ((100, 80, []))) else (bif Nat.blt a 207 then ((100, 80, [])) else ((100, 80, []))))) else (bif Nat.blt a 211 then (bif Nat.blt a 209 then ((100, 80, [])) else (bif Nat.blt a 210 then ((100, 5, [])) else ((100, 2500, [])))) else (bif Nat.blt a 213 then (bif Nat.blt a 212 then ((100, 2500, [])) else ((100, 40, []))) else (bif Nat.blt a 214 then ((100, 5, [])) else ((100, 120, [])))))) else (bif Nat.blt a 222 then (bif Nat.blt a 218 then (bif Nat.blt a 216 then ((100, 120, [])) else (bif Nat.blt a 217 then ((100, 14, [])) else ((100, 520, [])))) else (bif Nat.blt a 220 then (bif Nat.blt a 219 then ((100, 576, [])) else ((101, 24, []))) else (bif Nat.blt a 221 then ((100, 24, [])) else ((100, 3, []))))) else (bif Nat.blt a 226 then (bif Nat.blt a 224 then (bif Nat.blt a 223 then ((100, 1200, [])) else ((100, 5, []))) else (bif Nat.blt a 225 then ((100, 5, [])) else ((100, 5, [])))) else (bif Nat.blt a 228 then (bif Nat.blt a 227 then ((101, 24, [])) else ((100, 24, []))) else (bif Nat.blt a 229 then ((100, 59500, [])) else ((100, 8600, [])))))))))
def pS (K : Nat → aK) : Prop := ∀ a, a < 230 → (K a).1 = (pC a).1 ∧ (100 ≤ (pC a).1 → (K a).2.1 = (pC a).2.1) ∧ ∀ j r, (pC a).2.2[j]? = some r → r < 230 → (K a).2.2 j = some r
def pCr (a j r : Nat) : Bool := Nat.blt a 230 && (((pC a).2.2[j]? == some r) && Nat.blt r 230)
theorem pRf {K : Nat → aK} (hS : pS K) {a j r : Nat} (h : pCr a j r = true) : (K a).2.2 j = some r := by
  unfold pCr at h
  simp only [Bool.and_eq_true, beq_iff_eq] at h
  exact (hS a (Nat.blt_eq.mp h.1)).2.2 j r h.2.1 (Nat.blt_eq.mp h.2.2)
/-- an array of a length -/
def pCa (a n : Nat) : Bool := Nat.blt a 230 && (Nat.ble 100 (pC a).1 && Nat.beq (pC a).2.1 n)
theorem pLn {K : Nat → aK} (hS : pS K) {a n : Nat} (h : pCa a n = true) : (K a).2.1 = n := by
  unfold pCa at h
  simp only [Bool.and_eq_true] at h
  rw [(hS a (Nat.blt_eq.mp h.1)).2.1 (Nat.le_of_ble_eq_true h.2.1)]
  exact Nat.eq_of_beq_eq_true h.2.2
theorem pLt {a n : Nat} (h : pCa a n = true) : a < 230 := by
  unfold pCa at h
  simp only [Bool.and_eq_true] at h
  exact Nat.blt_eq.mp h.1
/-- a cell of a class -/
def pK (c a : Nat) : Bool := Nat.blt a 230 && Nat.beq (pC a).1 c
/-- where its rows lie, from it on -/
def pO (c j : Nat) : Nat := match c with
  | 0 => (match j with | 0 => 1 | _ => 0)
  | 2 => (match j with | 2 => 1 | 3 => 2 | 4 => 3 | 5 => 4 | 6 => 5 | 7 => 6 | _ => 0)
  | 3 => (match j with | 2 => 1 | 3 => 2 | 4 => 3 | _ => 0)
  | 4 => (match j with | 0 => 1 | _ => 0)
  | 6 => (match j with | 0 => 1 | 1 => 3 | 2 => 4 | _ => 0)
  | 9 => (match j with | 0 => 1 | 1 => 6 | 2 => 7 | 3 => 8 | 4 => 9 | 5 => 10 | 6 => 11 | _ => 0)
  | 10 => (match j with | 12 => 1 | 13 => 2 | 14 => 3 | 15 => 4 | _ => 0)
  | _ => 0
def pOn (c o : Nat) : Nat := match c with
  | 2 => (match o with | 1 => 16 | 2 => 16 | 3 => 16 | 4 => 16 | 5 => 500 | 6 => 32 | _ => 0)
  | 3 => (match o with | 1 => 24 | 2 => 24 | 3 => 24 | _ => 0)
  | 4 => (match o with | 1 => 14 | _ => 0)
  | 6 => (match o with | 3 => 3 | 4 => 3 | _ => 0)
  | 9 => (match o with | 6 => 4 | 7 => 4 | 8 => 480 | 9 => 5 | 10 => 24 | 11 => 24 | _ => 0)
  | 10 => (match o with | 1 => 24 | 2 => 24 | 3 => 576 | 4 => 18 | _ => 0)
  | _ => 0
theorem pK_ck : ∀ a, a < 230 → ∀ j, j < 16 → pO (pC a).1 j ≠ 0 → pCr a j (a + pO (pC a).1 j) = true := by decide +kernel
theorem pKa_ck : ∀ a, a < 230 → ∀ o, o < 12 → pOn (pC a).1 o ≠ 0 → pCa (a + o) (pOn (pC a).1 o) = true := by decide +kernel
theorem pKi {c a : Nat} (h : pK c a = true) : a < 230 ∧ (pC a).1 = c := by
  unfold pK at h
  simp only [Bool.and_eq_true] at h
  exact ⟨Nat.blt_eq.mp h.1, Nat.eq_of_beq_eq_true h.2⟩
theorem pRw {K : Nat → aK} (hS : pS K) {c a j o : Nat} (h : pK c a = true) (ho : (Nat.blt j 16 && (Nat.beq (pO c j) o && Nat.ble 1 o)) = true) : (K a).2.2 j = some (a + o) := by
  simp only [Bool.and_eq_true] at ho
  obtain ⟨h1, h2⟩ := pKi h
  have e := Nat.eq_of_beq_eq_true ho.2.1
  have e1 := Nat.le_of_ble_eq_true ho.2.2
  have := pK_ck a h1 j (Nat.blt_eq.mp ho.1) (by rw [h2, e]; omega)
  rw [h2, e] at this
  exact pRf hS this
theorem pRl {c a o n : Nat} (h : pK c a = true) (ho : (Nat.blt o 12 && (Nat.beq (pOn c o) n && Nat.ble 1 n)) = true) : pCa (a + o) n = true := by
  simp only [Bool.and_eq_true] at ho
  obtain ⟨h1, h2⟩ := pKi h
  have e := Nat.eq_of_beq_eq_true ho.2.1
  have e1 := Nat.le_of_ble_eq_true ho.2.2
  have := pKa_ck a h1 o (Nat.blt_eq.mp ho.1) (by rw [h2, e]; omega)
  rwa [h2, e] at this
/-- a row of cells that stand in steps -/
def pAr (a n r s c : Nat) : Bool := pCa a n && ((List.range n).all fun j => pCr a j (r + s * j) && (Nat.beq c 100 || pK c (r + s * j)))
theorem pIn_lt {j : Int32} {n : Nat} (h : pIn j n) : ix j < n := by
  obtain ⟨h1, h2⟩ := h
  show j.toInt.toNat < n
  omega
theorem pArL {K : Nat → aK} (hS : pS K) {a n r s c : Nat} (h : pAr a n r s c = true) : (K a).2.1 = n := by
  unfold pAr at h
  simp only [Bool.and_eq_true] at h
  exact pLn hS h.1
theorem pArR {K : Nat → aK} (hS : pS K) {a n r s c : Nat} (h : pAr a n r s c = true) {j : Int32} (hj : pIn j n) : (K a).2.2 (ix j) = some (r + s * ix j) := by
  unfold pAr at h
  simp only [Bool.and_eq_true] at h
  have := List.all_eq_true.mp h.2 (ix j) (List.mem_range.mpr (pIn_lt hj))
  simp only [Bool.and_eq_true] at this
  exact pRf hS this.1
theorem pArK {a n r s c : Nat} (h : pAr a n r s c = true) (hc : c ≠ 100) {j : Int32} (hj : pIn j n) : pK c (r + s * ix j) = true := by
  unfold pAr at h
  simp only [Bool.and_eq_true] at h
  have := List.all_eq_true.mp h.2 (ix j) (List.mem_range.mpr (pIn_lt hj))
  simp only [Bool.and_eq_true, Bool.or_eq_true] at this
  rcases this.2 with e | e
  · exact absurd (Nat.eq_of_beq_eq_true e) hc
  · exact e
theorem pTw {t : Nat} (h : pK 9 t = true) : pK 10 (t + 1) = true := by
  obtain ⟨h1, h2⟩ := pKi h
  have c : ∀ a, a < 230 → (pC a).1 = 9 → pK 10 (a + 1) = true := by decide +kernel
  exact c t h1 h2
/-- rows of numbers that stand in steps -/
def pAa (n r s m : Nat) : Bool := (List.range n).all fun j => pCa (r + s * j) m
theorem pArA {n r s m : Nat} (h : pAa n r s m = true) {j : Int32} (hj : pIn j n) : pCa (r + s * ix j) m = true :=
  List.all_eq_true.mp h (ix j) (List.mem_range.mpr (pIn_lt hj))
theorem pLsD {x : Int32} {dd : Int} {n1 : Nat} (hd : dd.toNat = n1) : ∀ {ps : List (Int × Int)}, (∀ v, v ∈ ps.map Prod.fst → ¬ x = kI v) → (Op.lookupswitch.offset ps dd x.toInt).toNat = n1
  | [], _ => hd
  | (a, o) :: r, h => by
    rw [Op.lookupswitch.offset_cons, if_neg]
    · exact pLsD hd (fun v hv => h v (List.mem_cons_of_mem _ hv))
    · intro e
      exact h a List.mem_cons_self (by rw [e]; exact (Int32.ofInt_toInt x).symm)
/-! what a run leaves as it is, but for what is written over at each use -/
def pScrA (a : Nat) : Bool := Nat.beq a 13 || Nat.beq a 36 || Nat.beq a 47 || Nat.beq a 58 || Nat.beq a 69 || Nat.beq a 92 || Nat.beq a 103 || Nat.beq a 114 || Nat.beq a 125 || Nat.beq a 132 || Nat.beq a 135 || Nat.beq a 136 || Nat.beq a 137 || Nat.beq a 175 || Nat.beq a 176 || Nat.beq a 177 || Nat.beq a 178 || Nat.beq a 179 || Nat.beq a 180 || Nat.beq a 181 || Nat.beq a 182 || Nat.beq a 183 || Nat.beq a 184 || Nat.beq a 185 || Nat.beq a 186 || Nat.beq a 187 || Nat.beq a 216 || Nat.beq a 217 || Nat.beq a 218 || Nat.beq a 219 || Nat.beq a 220 || Nat.beq a 221
def pScr (a j : Nat) : Bool := pScrA a || (Nat.beq a 188 && (Nat.beq j 0 || Nat.beq j 51))
theorem pScrL {l : Nat} (h : pK 2 l = true) (j : Nat) : pScr (l + 6) j = true := by
  obtain ⟨h1, h2⟩ := pKi h
  have c : ∀ a, a < 230 → (pC a).1 = 2 → pScrA (a + 6) = true := by decide +kernel
  unfold pScr
  rw [c l h1 h2]
  rfl
theorem pScrR {r : Nat} (h : pCa r 1189 = true) (j : Nat) : pScr r j = true := by
  have h1 := pLt h
  have c : ∀ a, a < 230 → pCa a 1189 = true → pScrA a = true := by decide +kernel
  unfold pScr
  rw [c r h1 h]
  rfl
/-- of a list of places (999: all of a row) none -/
def pOut (L : List (Nat × Nat)) (a j : Nat) : Bool := L.all fun p => !(Nat.beq p.1 a && (Nat.beq p.2 999 || Nat.beq p.2 j))
def pFr (L : List (Nat × Nat)) (M N : pMem) : Prop := ∀ a j, a < 230 → pScr a j = false → pOut L a j = true → N a j = M a j
def pTf {α : Type} (L : List (Nat × Nat)) (M0 : pMem) (T : pT α) : Prop := ∀ v N, T v N → pFr L M0 N
section TF
variable {α β : Type} {L L' : List (Nat × Nat)} {M0 M : pMem} {A B : pT α} {c : Prop} {a j : Nat} {x : Int32}
theorem pFr_refl : pFr L M M := fun _ _ _ _ _ => rfl
theorem pFr_trans {N : pMem} (f : pFr L M0 M) (g : pFr L M N) : pFr L M0 N := fun a j h1 h2 h3 => (g a j h1 h2 h3).trans (f a j h1 h2 h3)
theorem tf_ret {y : α} (f : pFr L M0 M) : pTf L M0 (tRet y M) := fun v N h => by
  obtain ⟨_, rfl⟩ := h
  exact f
theorem tf_gd (k : c → pTf L M0 A) : pTf L M0 (tGd c A) := fun v N h => k h.1 v N h.2
theorem tf_if (k1 : pTf L M0 A) (k2 : pTf L M0 B) : pTf L M0 (tIf c A B) := fun v N h => h.elim (fun q => k1 v N q.2) (fun q => k2 v N q.2)
theorem pOut_at {i f : Nat} (hi : L[i]? = some (a, f)) {j : Nat} (h : pOut L a j = true) : ¬ (f = 999 ∨ f = j) := fun e => by
  have := List.all_eq_true.mp h _ (List.mem_of_getElem? hi)
  simp only [Bool.not_eq_true', Bool.and_eq_false_iff, Bool.or_eq_false_iff] at this
  rcases this with t | t
  · rw [Nat.beq_refl] at t
    cases t
  · rcases e with rfl | rfl
    · rw [Nat.beq_refl] at t
      exact absurd t.1 (by decide)
    · rw [Nat.beq_refl] at t
      exact absurd t.2 (by decide)
theorem tf_put {C : pMem → pT α} (f : pFr L M0 M) (i : Nat) (hi : L[i]? = some (a, j)) (k : ∀ M1, pFr L M0 M1 → pTf L M0 (C M1)) : pTf L M0 (tPut (aPut M a j x) C) := fun v N h => by
  obtain ⟨M1, rfl, h⟩ := h
  refine k _ (fun b m h1 h2 h3 => ?_) v N h
  rw [← f b m h1 h2 h3]
  unfold aPut
  by_cases e : b = a
  · subst e
    rw [if_pos rfl, if_neg]
    intro e2
    exact pOut_at hi h3 (Or.inr e2.symm)
  · rw [if_neg e]
theorem tf_putA {C : pMem → pT α} (f : pFr L M0 M) (i : Nat) (hi : L[i]? = some (a, 999)) (k : ∀ M1, pFr L M0 M1 → pTf L M0 (C M1)) : pTf L M0 (tPut (aPut M a j x) C) := fun v N h => by
  obtain ⟨M1, rfl, h⟩ := h
  refine k _ (fun b m h1 h2 h3 => ?_) v N h
  rw [← f b m h1 h2 h3]
  unfold aPut
  by_cases e : b = a
  · subst e
    exact absurd (Or.inl rfl) (pOut_at hi h3)
  · rw [if_neg e]
theorem tf_putS {C : pMem → pT α} (f : pFr L M0 M) (hs : ∀ j, pScr a j = true) (k : ∀ M1, pFr L M0 M1 → pTf L M0 (C M1)) : pTf L M0 (tPut (aPut M a j x) C) := fun v N h => by
  obtain ⟨M1, rfl, h⟩ := h
  refine k _ (fun b m h1 h2 h3 => ?_) v N h
  rw [← f b m h1 h2 h3]
  unfold aPut
  by_cases e : b = a
  · subst e
    rw [hs m] at h2
    cases h2
  · rw [if_neg e]
theorem tf_putS1 {C : pMem → pT α} (f : pFr L M0 M) (hs : pScr a j = true) (k : ∀ M1, pFr L M0 M1 → pTf L M0 (C M1)) : pTf L M0 (tPut (aPut M a j x) C) := fun v N h => by
  obtain ⟨M1, rfl, h⟩ := h
  refine k _ (fun b m h1 h2 h3 => ?_) v N h
  rw [← f b m h1 h2 h3]
  unfold aPut
  by_cases e : b = a
  · subst e
    rw [if_pos rfl, if_neg]
    intro e2
    subst e2
    rw [hs] at h2
    cases h2
  · rw [if_neg e]
theorem tf_row {C : pMem → pT α} {g : Nat → Int32} (f : pFr L M0 M) (i : Nat) (hi : L[i]? = some (a, 999)) (k : ∀ M1, pFr L M0 M1 → pTf L M0 (C M1)) : pTf L M0 (tPut (aRow M a g) C) := fun v N h => by
  obtain ⟨M1, rfl, h⟩ := h
  refine k _ (fun b m h1 h2 h3 => ?_) v N h
  rw [← f b m h1 h2 h3]
  unfold aRow
  by_cases e : b = a
  · subst e
    exact absurd (Or.inl rfl) (pOut_at hi h3)
  · rw [if_neg e]
theorem tf_rowS {C : pMem → pT α} {g : Nat → Int32} (f : pFr L M0 M) (hs : ∀ j, pScr a j = true) (k : ∀ M1, pFr L M0 M1 → pTf L M0 (C M1)) : pTf L M0 (tPut (aRow M a g) C) := fun v N h => by
  obtain ⟨M1, rfl, h⟩ := h
  refine k _ (fun b m h1 h2 h3 => ?_) v N h
  rw [← f b m h1 h2 h3]
  unfold aRow
  by_cases e : b = a
  · subst e
    rw [hs m] at h2
    cases h2
  · rw [if_neg e]
/-- all that another list names is named here too -/
theorem pFr_sub {N : pMem} (ix : List Nat) (hs : L' = ix.map fun i => L.getD i (230, 0)) (f : pFr L' M N) : pFr L M N := fun a j h1 h2 h3 => by
  refine f a j h1 h2 (List.all_eq_true.mpr fun p hp => ?_)
  rw [hs] at hp
  obtain ⟨i, _, rfl⟩ := List.mem_map.mp hp
  rw [List.getD_eq_getElem?_getD]
  cases e : L[i]? with
  | none =>
    show (!(Nat.beq 230 a && _)) = true
    rw [show Nat.beq 230 a = false from Bool.eq_false_iff.mpr fun q => by have := Nat.eq_of_beq_eq_true q; omega]
    rfl
  | some p => exact List.all_eq_true.mp h3 p (List.mem_of_getElem? e)
theorem tf_call {D : pT β} {C : β → pMem → pT α} (f : pFr L M0 M) (d : ∀ v N, D v N → pFr L' M N) (ix : List Nat) (hs : L' = ix.map fun i => L.getD i (230, 0)) (k : ∀ x M1, pFr L M0 M1 → pTf L M0 (C x M1)) : pTf L M0 (tCall D C) := fun v N h => by
  obtain ⟨x, M1, h1, h2⟩ := h
  exact k x M1 (pFr_trans f (pFr_sub ix hs (d x M1 h1))) v N h2
theorem tf_callR {D : pT β} {C : β → pMem → pT α} (f : pFr L M0 M) (d : ∀ v N, D v N → pFr L' M N) (ix : List Nat) (hs : L' = ix.map fun i => L.getD i (230, 0)) (k : ∀ x M1, D x M1 → pFr L M0 M1 → pTf L M0 (C x M1)) : pTf L M0 (tCall D C) := fun v N h => by
  obtain ⟨x, M1, h1, h2⟩ := h
  exact k x M1 h1 (pFr_trans f (pFr_sub ix hs (d x M1 h1))) v N h2
theorem tf_callE {D : pT β} {C : β → pMem → pT α} (f : pFr L M0 M) (k : ∀ x M1, pFr L M0 M1 → pTf L M0 (C x M1)) (d : ∀ v N, D v N → pFr L M N) : pTf L M0 (tCall D C) := fun v N h => by
  obtain ⟨x, M1, h1, h2⟩ := h
  exact k x M1 (pFr_trans f (d x M1 h1)) v N h2
theorem tf_jump (f : pFr L M0 M) : pTf L M0 (fun (_ : α) N => pFr L M N) := fun _ _ h => pFr_trans f h
theorem tf_jumpL {ι : Type} {C : ι → Prop} {T : ι → pT α} (P : ι) (hP : C P) (e : T P = fun (_ : α) N => pFr L M N) (f : pFr L M0 M) : pTf L M0 (fun v N => ∀ P, C P → T P v N) := fun v N h => by
  have h := h P hP
  rw [e] at h
  exact pFr_trans f h
end TF
