/-! what runs come to, method by method: printed by wip/pm/pm.py -/
/-- TwoCamps.isLot(I)Z -/
def f_32 (p0 : Int32) : Int32 := if p0 = 0 then (kI 1) else if ¬ p0 = (kI 1) then (kI 0) else (kI 1)
theorem f_32_ok {X : aX} {F d : Nat} {K : Nat → aK} (hS : pS K) {p0 : Int32} {M : pMem} {out : Option Value × aH} (H : aM X F d 32 [.int p0] (pH K M) = some out) : out = (some <| Value.int (f_32 p0), pH K M) := by
  obtain ⟨d', g0, _, H⟩ := pEnt (n := 1) (ls := [.int p0]) (mcb_32 rfl) (by decide +kernel) rfl H
  unfold f_32
  replace H := pRun (ls' := [.int p0]) (st' := [.int p0]) 1 rfl H
  rcases pIf0 (n1 := 2) rfl (mcb_32 rfl) (mcb_32 rfl) H with ⟨g1, g0, _, H⟩ | ⟨g1, g0, _, H⟩
  · rw [if_pos (show p0 = 0 from g1)]
    replace H := pRun (ls' := [.int p0]) (st' := [.int (kI 1)]) 1 rfl H
    obtain ⟨g0, _, H⟩ := pGo (n1 := 4) rfl (mcb_32 rfl) H
    exact pRetI H
  · rw [if_neg (show ¬ (p0 = 0) from g1)]
    replace H := pRun (ls' := [.int p0]) (st' := [.int (kI 1), .int p0]) 2 rfl H
    rcases pIfc (n1 := 3) rfl (mcb_32 rfl) (mcb_32 rfl) H with ⟨g2, g0, _, H⟩ | ⟨g2, g0, _, H⟩
    · rw [if_pos (show ¬ p0 = (kI 1) from g2)]
      replace H := pRun (ls' := [.int p0]) (st' := [.int (kI 0)]) 1 rfl H
      obtain ⟨g0, _, H⟩ := pFall (mcb_32 rfl) H
      exact pRetI H
    · rw [if_neg (show ¬ (¬ p0 = (kI 1)) from g2)]
      replace H := pRun (ls' := [.int p0]) (st' := [.int (kI 1)]) 1 rfl H
      obtain ⟨g0, _, H⟩ := pGo (n1 := 4) rfl (mcb_32 rfl) H
      exact pRetI H
/-- TwoCamps.isText(I)Z -/
def f_33 (p0 : Int32) : Int32 := if p0 < 0 then (kI 0) else if (kI 4) ≤ p0 then (kI 0) else (kI 1)
theorem f_33_ok {X : aX} {F d : Nat} {K : Nat → aK} (hS : pS K) {p0 : Int32} {M : pMem} {out : Option Value × aH} (H : aM X F d 33 [.int p0] (pH K M) = some out) : out = (some <| Value.int (f_33 p0), pH K M) := by
  obtain ⟨d', g0, _, H⟩ := pEnt (n := 1) (ls := [.int p0]) (mcb_33 rfl) (by decide +kernel) rfl H
  unfold f_33
  replace H := pRun (ls' := [.int p0]) (st' := [.int p0]) 1 rfl H
  rcases pIf0 (n1 := 3) rfl (mcb_33 rfl) (mcb_33 rfl) H with ⟨g1, g0, _, H⟩ | ⟨g1, g0, _, H⟩
  · rw [if_pos (show p0 < 0 from g1)]
    replace H := pRun (ls' := [.int p0]) (st' := [.int (kI 0)]) 1 rfl H
    obtain ⟨g0, _, H⟩ := pFall (mcb_33 rfl) H
    exact pRetI H
  · rw [if_neg (show ¬ (p0 < 0) from g1)]
    replace H := pRun (ls' := [.int p0]) (st' := [.int (kI 4), .int p0]) 2 rfl H
    rcases pIfc (n1 := 3) rfl (mcb_33 rfl) (mcb_33 rfl) H with ⟨g2, g0, _, H⟩ | ⟨g2, g0, _, H⟩
    · rw [if_pos (show (kI 4) ≤ p0 from g2)]
      replace H := pRun (ls' := [.int p0]) (st' := [.int (kI 0)]) 1 rfl H
      obtain ⟨g0, _, H⟩ := pFall (mcb_33 rfl) H
      exact pRetI H
    · rw [if_neg (show ¬ ((kI 4) ≤ p0) from g2)]
      replace H := pRun (ls' := [.int p0]) (st' := [.int (kI 1)]) 1 rfl H
      obtain ⟨g0, _, H⟩ := pGo (n1 := 4) rfl (mcb_33 rfl) H
      exact pRetI H
/-- TwoCamps.isKind(I)Z -/
def f_34 (p0 : Int32) : Int32 := if p0 < 0 then (kI 0) else if (kI 3) < p0 then (kI 0) else (kI 1)
theorem f_34_ok {X : aX} {F d : Nat} {K : Nat → aK} (hS : pS K) {p0 : Int32} {M : pMem} {out : Option Value × aH} (H : aM X F d 34 [.int p0] (pH K M) = some out) : out = (some <| Value.int (f_34 p0), pH K M) := by
  obtain ⟨d', g0, _, H⟩ := pEnt (n := 1) (ls := [.int p0]) (mcb_34 rfl) (by decide +kernel) rfl H
  unfold f_34
  replace H := pRun (ls' := [.int p0]) (st' := [.int p0]) 1 rfl H
  rcases pIf0 (n1 := 3) rfl (mcb_34 rfl) (mcb_34 rfl) H with ⟨g1, g0, _, H⟩ | ⟨g1, g0, _, H⟩
  · rw [if_pos (show p0 < 0 from g1)]
    replace H := pRun (ls' := [.int p0]) (st' := [.int (kI 0)]) 1 rfl H
    obtain ⟨g0, _, H⟩ := pFall (mcb_34 rfl) H
    exact pRetI H
  · rw [if_neg (show ¬ (p0 < 0) from g1)]
    replace H := pRun (ls' := [.int p0]) (st' := [.int (kI 3), .int p0]) 2 rfl H
    rcases pIfc (n1 := 3) rfl (mcb_34 rfl) (mcb_34 rfl) H with ⟨g2, g0, _, H⟩ | ⟨g2, g0, _, H⟩
    · rw [if_pos (show (kI 3) < p0 from g2)]
      replace H := pRun (ls' := [.int p0]) (st' := [.int (kI 0)]) 1 rfl H
      obtain ⟨g0, _, H⟩ := pFall (mcb_34 rfl) H
      exact pRetI H
    · rw [if_neg (show ¬ ((kI 3) < p0) from g2)]
      replace H := pRun (ls' := [.int p0]) (st' := [.int (kI 1)]) 1 rfl H
      obtain ⟨g0, _, H⟩ := pGo (n1 := 4) rfl (mcb_34 rfl) H
      exact pRetI H
/-- TwoCamps.isLike(I)Z -/
def f_35 (p0 : Int32) : Int32 := if p0 < (kI (-50)) then (kI 0) else if (kI 50) < p0 then (kI 0) else (kI 1)
theorem f_35_ok {X : aX} {F d : Nat} {K : Nat → aK} (hS : pS K) {p0 : Int32} {M : pMem} {out : Option Value × aH} (H : aM X F d 35 [.int p0] (pH K M) = some out) : out = (some <| Value.int (f_35 p0), pH K M) := by
  obtain ⟨d', g0, _, H⟩ := pEnt (n := 1) (ls := [.int p0]) (mcb_35 rfl) (by decide +kernel) rfl H
  unfold f_35
  replace H := pRun (ls' := [.int p0]) (st' := [.int (kI (-50)), .int p0]) 2 rfl H
  rcases pIfc (n1 := 3) rfl (mcb_35 rfl) (mcb_35 rfl) H with ⟨g1, g0, _, H⟩ | ⟨g1, g0, _, H⟩
  · rw [if_pos (show p0 < (kI (-50)) from g1)]
    replace H := pRun (ls' := [.int p0]) (st' := [.int (kI 0)]) 1 rfl H
    obtain ⟨g0, _, H⟩ := pFall (mcb_35 rfl) H
    exact pRetI H
  · rw [if_neg (show ¬ (p0 < (kI (-50))) from g1)]
    replace H := pRun (ls' := [.int p0]) (st' := [.int (kI 50), .int p0]) 2 rfl H
    rcases pIfc (n1 := 3) rfl (mcb_35 rfl) (mcb_35 rfl) H with ⟨g2, g0, _, H⟩ | ⟨g2, g0, _, H⟩
    · rw [if_pos (show (kI 50) < p0 from g2)]
      replace H := pRun (ls' := [.int p0]) (st' := [.int (kI 0)]) 1 rfl H
      obtain ⟨g0, _, H⟩ := pFall (mcb_35 rfl) H
      exact pRetI H
    · rw [if_neg (show ¬ ((kI 50) < p0) from g2)]
      replace H := pRun (ls' := [.int p0]) (st' := [.int (kI 1)]) 1 rfl H
      obtain ⟨g0, _, H⟩ := pGo (n1 := 4) rfl (mcb_35 rfl) H
      exact pRetI H
/-- TwoCamps.isBeans(I)Z -/
def f_36 (p0 : Int32) : Int32 := if p0 < 0 then (kI 0) else if (kI 999) < p0 then (kI 0) else (kI 1)
theorem f_36_ok {X : aX} {F d : Nat} {K : Nat → aK} (hS : pS K) {p0 : Int32} {M : pMem} {out : Option Value × aH} (H : aM X F d 36 [.int p0] (pH K M) = some out) : out = (some <| Value.int (f_36 p0), pH K M) := by
  obtain ⟨d', g0, _, H⟩ := pEnt (n := 1) (ls := [.int p0]) (mcb_36 rfl) (by decide +kernel) rfl H
  unfold f_36
  replace H := pRun (ls' := [.int p0]) (st' := [.int p0]) 1 rfl H
  rcases pIf0 (n1 := 3) rfl (mcb_36 rfl) (mcb_36 rfl) H with ⟨g1, g0, _, H⟩ | ⟨g1, g0, _, H⟩
  · rw [if_pos (show p0 < 0 from g1)]
    replace H := pRun (ls' := [.int p0]) (st' := [.int (kI 0)]) 1 rfl H
    obtain ⟨g0, _, H⟩ := pFall (mcb_36 rfl) H
    exact pRetI H
  · rw [if_neg (show ¬ (p0 < 0) from g1)]
    replace H := pRun (ls' := [.int p0]) (st' := [.int (kI 999), .int p0]) 2 rfl H
    rcases pIfc (n1 := 3) rfl (mcb_36 rfl) (mcb_36 rfl) H with ⟨g2, g0, _, H⟩ | ⟨g2, g0, _, H⟩
    · rw [if_pos (show (kI 999) < p0 from g2)]
      replace H := pRun (ls' := [.int p0]) (st' := [.int (kI 0)]) 1 rfl H
      obtain ⟨g0, _, H⟩ := pFall (mcb_36 rfl) H
      exact pRetI H
    · rw [if_neg (show ¬ ((kI 999) < p0) from g2)]
      replace H := pRun (ls' := [.int p0]) (st' := [.int (kI 1)]) 1 rfl H
      obtain ⟨g0, _, H⟩ := pGo (n1 := 4) rfl (mcb_36 rfl) H
      exact pRetI H
/-- TwoCamps.has(II)Z -/
def f_37 (p0 : Int32) (p1 : Int32) : Int32 := if ¬ ((pUsr p0 p1) &&& (kI 1)) = (kI 1) then (kI 0) else (kI 1)
theorem f_37_ok {X : aX} {F d : Nat} {K : Nat → aK} (hS : pS K) {p0 : Int32} {p1 : Int32} {M : pMem} {out : Option Value × aH} (H : aM X F d 37 [.int p0, .int p1] (pH K M) = some out) : out = (some <| Value.int (f_37 p0 p1), pH K M) := by
  obtain ⟨d', g0, _, H⟩ := pEnt (n := 2) (ls := [.int p0, .int p1]) (mcb_37 rfl) (by decide +kernel) rfl H
  unfold f_37
  replace H := pRun (ls' := [.int p0, .int p1]) (st' := [.int (kI 1), .int ((pUsr p0 p1) &&& (kI 1))]) 6 rfl H
  rcases pIfc (n1 := 2) rfl (mcb_37 rfl) (mcb_37 rfl) H with ⟨g1, g0, _, H⟩ | ⟨g1, g0, _, H⟩
  · rw [if_pos (show ¬ ((pUsr p0 p1) &&& (kI 1)) = (kI 1) from g1)]
    replace H := pRun (ls' := [.int p0, .int p1]) (st' := [.int (kI 0)]) 1 rfl H
    obtain ⟨g0, _, H⟩ := pFall (mcb_37 rfl) H
    exact pRetI H
  · rw [if_neg (show ¬ (¬ ((pUsr p0 p1) &&& (kI 1)) = (kI 1)) from g1)]
    replace H := pRun (ls' := [.int p0, .int p1]) (st' := [.int (kI 1)]) 1 rfl H
    obtain ⟨g0, _, H⟩ := pGo (n1 := 3) rfl (mcb_37 rfl) H
    exact pRetI H
/-- TwoCamps.mean(II)I -/
def f_38 (p0 : Int32) (p1 : Int32) : Int32 := if p1 ≤ 0 then (kI 0) else (pFd p0 p1)
theorem f_38_ok {X : aX} {F d : Nat} {K : Nat → aK} (hS : pS K) {p0 : Int32} {p1 : Int32} {M : pMem} {out : Option Value × aH} (H : aM X F d 38 [.int p0, .int p1] (pH K M) = some out) : out = (some <| Value.int (f_38 p0 p1), pH K M) := by
  obtain ⟨d', g0, _, H⟩ := pEnt (n := 2) (ls := [.int p0, .int p1]) (mcb_38 rfl) (by decide +kernel) rfl H
  unfold f_38
  replace H := pRun (ls' := [.int p0, .int p1]) (st' := [.int p1]) 1 rfl H
  rcases pIf0 (n1 := 2) rfl (mcb_38 rfl) (mcb_38 rfl) H with ⟨g1, g0, _, H⟩ | ⟨g1, g0, _, H⟩
  · rw [if_pos (show p1 ≤ 0 from g1)]
    replace H := pRun (ls' := [.int p0, .int p1]) (st' := [.int (kI 0)]) 1 rfl H
    obtain ⟨g0, _, H⟩ := pFall (mcb_38 rfl) H
    exact pRetI H
  · rw [if_neg (show ¬ (p1 ≤ 0) from g1)]
    replace H := pRun (ls' := [.int p0, .int p1]) (st' := [.int p1, .int p0]) 2 rfl H
    obtain ⟨g2, H⟩ := pFdv rfl H
    obtain ⟨g0, _, H⟩ := pGo (n1 := 3) rfl (mcb_38 rfl) H
    exact pRetI H
/-- TwoCamps.held(JII)I -/
def f_39 (p0 : Int64) (p2 : Int32) (p3 : Int32) : Int32 := (Int64.toInt32 (pMxL (Int32.toInt64 p2) (pMnL (Int32.toInt64 p3) p0)))
theorem f_39_ok {X : aX} {F d : Nat} {K : Nat → aK} (hS : pS K) {p0 : Int64} {p2 : Int32} {p3 : Int32} {M : pMem} {out : Option Value × aH} (H : aM X F d 39 [.long p0, .int p2, .int p3] (pH K M) = some out) : out = (some <| Value.int (f_39 p0 p2 p3), pH K M) := by
  obtain ⟨d', g0, _, H⟩ := pEnt (n := 4) (ls := [.long p0, aD, .int p2, .int p3]) (mcb_39 rfl) (by decide +kernel) rfl H
  unfold f_39
  replace H := pRun (ls' := [.long p0, aD, .int p2, .int p3]) (st' := [.long p0, .long (Int32.toInt64 p3), .long (Int32.toInt64 p2)]) 5 rfl H
  replace H := pMinL rfl H
  replace H := pMaxL rfl H
  replace H := pRun (ls' := [.long p0, aD, .int p2, .int p3]) (st' := [.int (Int64.toInt32 (pMxL (Int32.toInt64 p2) (pMnL (Int32.toInt64 p3) p0)))]) 1 rfl H
  exact pRetI H
/-- TwoCamps.waysOfAtMost(II)J -/
def S_40_1 (p0 : Int32) (p1 : Int32) (P1 : Int64 → Int64 → Int32 → pMem → pT Int64) (x2 : Int64) (x4 : Int64) (x6 : Int32) (M : pMem) : pT Int64 := tIf (p1 < x6) (tRet x2 M) (tGd (¬ (Int32.toInt64 (x6 + (kI 1))) = 0) <| P1 (x2 + x4) ((x4 * (Int32.toInt64 (p0 - x6))) / (Int32.toInt64 (x6 + (kI 1)))) (x6 + kI 1) M)
def C_40 (p0 : Int32) (p1 : Int32) (P1 : Int64 → Int64 → Int32 → pMem → pT Int64) : Prop := (∀ (x2 : Int64) (x4 : Int64) (x6 : Int32) M v N, S_40_1 p0 p1 P1 x2 x4 x6 M v N → P1 x2 x4 x6 M v N)
def L_40_1 (p0 : Int32) (p1 : Int32) (x2 : Int64) (x4 : Int64) (x6 : Int32) (M : pMem) : pT Int64 := fun v N => ∀ P : (Int64 → Int64 → Int32 → pMem → pT Int64), C_40 p0 p1 P → P x2 x4 x6 M v N
def D_40 (p0 : Int32) (p1 : Int32) (M : pMem) : pT Int64 := L_40_1 p0 p1 (Int64.ofNat 0) (Int64.ofNat 1) (kI 0) M
theorem K_40 {X : aX} {F d : Nat} {K : Nat → aK} (hS : pS K) {p0 : Int32} {p1 : Int32} {out : Option Value × aH} (P1 : Int64 → Int64 → Int32 → pMem → pT Int64) (hC : C_40 p0 p1 P1) : ∀ f, (∀ (x2 : Int64) (x4 : Int64) (x6 : Int32) M, pm X F d 40 f 1 [.iload 6, .iload 1, .if_icmp .gt 3] [.int p0, .int p1, .long x2, aD, .long x4, aD, .int x6] [] (pH K M) out → pG eL K out (P1 x2 x4 x6 M)) := by
  intro f
  induction f using Nat.strongRecOn with
  | _ f ih =>
    intro x2 x4 x6 M H
    refine pG_mono (fun v N h => hC x2 x4 x6 M v N h) ?_
    unfold S_40_1
    replace H := pRun (ls' := [.int p0, .int p1, .long x2, aD, .long x4, aD, .int x6]) (st' := [.int p1, .int x6]) 2 rfl H
    rcases pIfc (n1 := 3) rfl (mcb_40 rfl) (mcb_40 rfl) H with ⟨g1, g0, _, H⟩ | ⟨g1, g0, _, H⟩
    · refine pG_pos (c := p1 < x6) g1 ?_
      replace H := pRun (ls' := [.int p0, .int p1, .long x2, aD, .long x4, aD, .int x6]) (st' := [.long x2]) 1 rfl H
      exact pG_ret (pRetL H)
    · refine pG_neg (c := p1 < x6) g1 ?_
      replace H := pRun (ls' := [.int p0, .int p1, .long (x2 + x4), aD, .long x4, aD, .int x6]) (st' := [.long (Int32.toInt64 (x6 + (kI 1))), .long (x4 * (Int32.toInt64 (p0 - x6)))]) 14 rfl H
      obtain ⟨g2, H⟩ := pLdv H
      refine pG_gd g2 ?_
      replace H := pRun (ls' := [.int p0, .int p1, .long (x2 + x4), aD, .long ((x4 * (Int32.toInt64 (p0 - x6))) / (Int32.toInt64 (x6 + (kI 1)))), aD, .int (x6 + kI 1)]) (st' := []) 2 rfl H
      obtain ⟨g0, _, H⟩ := pGo (n1 := 1) rfl (mcb_40 rfl) H
      exact (ih _ (by omega)) _ _ _  _ H
theorem L_40_1_ok {X : aX} {F d : Nat} {K : Nat → aK} (hS : pS K) {p0 : Int32} {p1 : Int32} {out : Option Value × aH} {f : Nat} {x2 : Int64} {x4 : Int64} {x6 : Int32} {M : pMem} (H : pm X F d 40 f 1 [.iload 6, .iload 1, .if_icmp .gt 3] [.int p0, .int p1, .long x2, aD, .long x4, aD, .int x6] [] (pH K M) out) : pG eL K out (L_40_1 p0 p1 x2 x4 x6 M) := by
  refine pG_all (C := fun P : (Int64 → Int64 → Int32 → pMem → pT Int64) => C_40 p0 p1 P) (T := fun P => P x2 x4 x6 M) eL_inj (fun _ _ _ _ _ _ => True) ?_ (fun P hP => (K_40 hS P hP f) _ _ _ _ H)
  exact (fun _ _ _ _ _ _ _ => trivial)
theorem D_40_ok {X : aX} {F d : Nat} {K : Nat → aK} (hS : pS K) {p0 : Int32} {p1 : Int32} {M : pMem} {out : Option Value × aH} (H : aM X F d 40 [.int p0, .int p1] (pH K M) = some out) : pG eL K out (D_40 p0 p1 M) := by
  obtain ⟨d', g0, _, H⟩ := pEnt (n := 7) (ls := [.int p0, .int p1, aD, aD, aD, aD, aD]) (mcb_40 rfl) (by decide +kernel) rfl H
  unfold D_40
  replace H := pRun (ls' := [.int p0, .int p1, .long (Int64.ofNat 0), aD, .long (Int64.ofNat 1), aD, .int (kI 0)]) (st' := []) 6 rfl H
  obtain ⟨g0, _, H⟩ := pFall (mcb_40 rfl) H
  exact L_40_1_ok hS  H
def l_40 : List (Nat × Nat) := []
theorem FC_40 {p0 : Int32} {p1 : Int32} : C_40 p0 p1 (fun _ _ _ M _ N => pFr (l_40) M N) := fun x2 x4 x6 M => show pTf (l_40) M (S_40_1 p0 p1 _ x2 x4 x6 M) from (tf_if (tf_ret pFr_refl) (tf_gd fun g2 => (tf_jump pFr_refl)))
theorem F_40 {p0 : Int32} {p1 : Int32} {M : pMem} {v : Int64} {N : pMem} (h : D_40 p0 p1 M v N) : pFr (l_40) M N :=
  (show pTf (l_40) M (D_40 p0 p1 M) from (tf_jumpL (fun _ _ _ M _ N => pFr (l_40) M N) (FC_40) rfl pFr_refl)) v N h
/-- java/lang/Integer.bitCount(I)I -/
def f_239 (p0 : Int32) : Int32 := ((((((((p0 - ((pUsr p0 (kI 1)) &&& (kI 1431655765))) &&& (kI 858993459)) + ((pUsr (p0 - ((pUsr p0 (kI 1)) &&& (kI 1431655765))) (kI 2)) &&& (kI 858993459))) + (pUsr (((p0 - ((pUsr p0 (kI 1)) &&& (kI 1431655765))) &&& (kI 858993459)) + ((pUsr (p0 - ((pUsr p0 (kI 1)) &&& (kI 1431655765))) (kI 2)) &&& (kI 858993459))) (kI 4))) &&& (kI 252645135)) + (pUsr (((((p0 - ((pUsr p0 (kI 1)) &&& (kI 1431655765))) &&& (kI 858993459)) + ((pUsr (p0 - ((pUsr p0 (kI 1)) &&& (kI 1431655765))) (kI 2)) &&& (kI 858993459))) + (pUsr (((p0 - ((pUsr p0 (kI 1)) &&& (kI 1431655765))) &&& (kI 858993459)) + ((pUsr (p0 - ((pUsr p0 (kI 1)) &&& (kI 1431655765))) (kI 2)) &&& (kI 858993459))) (kI 4))) &&& (kI 252645135)) (kI 8))) + (pUsr ((((((p0 - ((pUsr p0 (kI 1)) &&& (kI 1431655765))) &&& (kI 858993459)) + ((pUsr (p0 - ((pUsr p0 (kI 1)) &&& (kI 1431655765))) (kI 2)) &&& (kI 858993459))) + (pUsr (((p0 - ((pUsr p0 (kI 1)) &&& (kI 1431655765))) &&& (kI 858993459)) + ((pUsr (p0 - ((pUsr p0 (kI 1)) &&& (kI 1431655765))) (kI 2)) &&& (kI 858993459))) (kI 4))) &&& (kI 252645135)) + (pUsr (((((p0 - ((pUsr p0 (kI 1)) &&& (kI 1431655765))) &&& (kI 858993459)) + ((pUsr (p0 - ((pUsr p0 (kI 1)) &&& (kI 1431655765))) (kI 2)) &&& (kI 858993459))) + (pUsr (((p0 - ((pUsr p0 (kI 1)) &&& (kI 1431655765))) &&& (kI 858993459)) + ((pUsr (p0 - ((pUsr p0 (kI 1)) &&& (kI 1431655765))) (kI 2)) &&& (kI 858993459))) (kI 4))) &&& (kI 252645135)) (kI 8))) (kI 16))) &&& (kI 63))
theorem f_239_ok {X : aX} {F d : Nat} {K : Nat → aK} (hS : pS K) {p0 : Int32} {M : pMem} {out : Option Value × aH} (H : aM X F d 239 [.int p0] (pH K M) = some out) : out = (some <| Value.int (f_239 p0), pH K M) := by
  obtain ⟨d', g0, _, H⟩ := pEnt (n := 1) (ls := [.int p0]) (mcb_239 rfl) (by decide +kernel) rfl H
  unfold f_239
  replace H := pRun (ls' := [.int p0]) (st' := [.int (pUsr p0 (kI 1)), .int p0]) 4 rfl H
  replace H := pLdc (x := 1431655765) (by decide) H
  replace H := pRun (ls' := [.int (p0 - ((pUsr p0 (kI 1)) &&& (kI 1431655765)))]) (st' := [.int (p0 - ((pUsr p0 (kI 1)) &&& (kI 1431655765)))]) 4 rfl H
  replace H := pLdc (x := 858993459) (by decide) H
  replace H := pRun (ls' := [.int (p0 - ((pUsr p0 (kI 1)) &&& (kI 1431655765)))]) (st' := [.int (pUsr (p0 - ((pUsr p0 (kI 1)) &&& (kI 1431655765))) (kI 2)), .int ((p0 - ((pUsr p0 (kI 1)) &&& (kI 1431655765))) &&& (kI 858993459))]) 4 rfl H
  replace H := pLdc (x := 858993459) (by decide) H
  replace H := pRun (ls' := [.int (((p0 - ((pUsr p0 (kI 1)) &&& (kI 1431655765))) &&& (kI 858993459)) + ((pUsr (p0 - ((pUsr p0 (kI 1)) &&& (kI 1431655765))) (kI 2)) &&& (kI 858993459)))]) (st' := [.int ((((p0 - ((pUsr p0 (kI 1)) &&& (kI 1431655765))) &&& (kI 858993459)) + ((pUsr (p0 - ((pUsr p0 (kI 1)) &&& (kI 1431655765))) (kI 2)) &&& (kI 858993459))) + (pUsr (((p0 - ((pUsr p0 (kI 1)) &&& (kI 1431655765))) &&& (kI 858993459)) + ((pUsr (p0 - ((pUsr p0 (kI 1)) &&& (kI 1431655765))) (kI 2)) &&& (kI 858993459))) (kI 4)))]) 8 rfl H
  replace H := pLdc (x := 252645135) (by decide) H
  replace H := pRun (ls' := [.int (((((((p0 - ((pUsr p0 (kI 1)) &&& (kI 1431655765))) &&& (kI 858993459)) + ((pUsr (p0 - ((pUsr p0 (kI 1)) &&& (kI 1431655765))) (kI 2)) &&& (kI 858993459))) + (pUsr (((p0 - ((pUsr p0 (kI 1)) &&& (kI 1431655765))) &&& (kI 858993459)) + ((pUsr (p0 - ((pUsr p0 (kI 1)) &&& (kI 1431655765))) (kI 2)) &&& (kI 858993459))) (kI 4))) &&& (kI 252645135)) + (pUsr (((((p0 - ((pUsr p0 (kI 1)) &&& (kI 1431655765))) &&& (kI 858993459)) + ((pUsr (p0 - ((pUsr p0 (kI 1)) &&& (kI 1431655765))) (kI 2)) &&& (kI 858993459))) + (pUsr (((p0 - ((pUsr p0 (kI 1)) &&& (kI 1431655765))) &&& (kI 858993459)) + ((pUsr (p0 - ((pUsr p0 (kI 1)) &&& (kI 1431655765))) (kI 2)) &&& (kI 858993459))) (kI 4))) &&& (kI 252645135)) (kI 8))) + (pUsr ((((((p0 - ((pUsr p0 (kI 1)) &&& (kI 1431655765))) &&& (kI 858993459)) + ((pUsr (p0 - ((pUsr p0 (kI 1)) &&& (kI 1431655765))) (kI 2)) &&& (kI 858993459))) + (pUsr (((p0 - ((pUsr p0 (kI 1)) &&& (kI 1431655765))) &&& (kI 858993459)) + ((pUsr (p0 - ((pUsr p0 (kI 1)) &&& (kI 1431655765))) (kI 2)) &&& (kI 858993459))) (kI 4))) &&& (kI 252645135)) + (pUsr (((((p0 - ((pUsr p0 (kI 1)) &&& (kI 1431655765))) &&& (kI 858993459)) + ((pUsr (p0 - ((pUsr p0 (kI 1)) &&& (kI 1431655765))) (kI 2)) &&& (kI 858993459))) + (pUsr (((p0 - ((pUsr p0 (kI 1)) &&& (kI 1431655765))) &&& (kI 858993459)) + ((pUsr (p0 - ((pUsr p0 (kI 1)) &&& (kI 1431655765))) (kI 2)) &&& (kI 858993459))) (kI 4))) &&& (kI 252645135)) (kI 8))) (kI 16)))]) (st' := [.int ((((((((p0 - ((pUsr p0 (kI 1)) &&& (kI 1431655765))) &&& (kI 858993459)) + ((pUsr (p0 - ((pUsr p0 (kI 1)) &&& (kI 1431655765))) (kI 2)) &&& (kI 858993459))) + (pUsr (((p0 - ((pUsr p0 (kI 1)) &&& (kI 1431655765))) &&& (kI 858993459)) + ((pUsr (p0 - ((pUsr p0 (kI 1)) &&& (kI 1431655765))) (kI 2)) &&& (kI 858993459))) (kI 4))) &&& (kI 252645135)) + (pUsr (((((p0 - ((pUsr p0 (kI 1)) &&& (kI 1431655765))) &&& (kI 858993459)) + ((pUsr (p0 - ((pUsr p0 (kI 1)) &&& (kI 1431655765))) (kI 2)) &&& (kI 858993459))) + (pUsr (((p0 - ((pUsr p0 (kI 1)) &&& (kI 1431655765))) &&& (kI 858993459)) + ((pUsr (p0 - ((pUsr p0 (kI 1)) &&& (kI 1431655765))) (kI 2)) &&& (kI 858993459))) (kI 4))) &&& (kI 252645135)) (kI 8))) + (pUsr ((((((p0 - ((pUsr p0 (kI 1)) &&& (kI 1431655765))) &&& (kI 858993459)) + ((pUsr (p0 - ((pUsr p0 (kI 1)) &&& (kI 1431655765))) (kI 2)) &&& (kI 858993459))) + (pUsr (((p0 - ((pUsr p0 (kI 1)) &&& (kI 1431655765))) &&& (kI 858993459)) + ((pUsr (p0 - ((pUsr p0 (kI 1)) &&& (kI 1431655765))) (kI 2)) &&& (kI 858993459))) (kI 4))) &&& (kI 252645135)) + (pUsr (((((p0 - ((pUsr p0 (kI 1)) &&& (kI 1431655765))) &&& (kI 858993459)) + ((pUsr (p0 - ((pUsr p0 (kI 1)) &&& (kI 1431655765))) (kI 2)) &&& (kI 858993459))) + (pUsr (((p0 - ((pUsr p0 (kI 1)) &&& (kI 1431655765))) &&& (kI 858993459)) + ((pUsr (p0 - ((pUsr p0 (kI 1)) &&& (kI 1431655765))) (kI 2)) &&& (kI 858993459))) (kI 4))) &&& (kI 252645135)) (kI 8))) (kI 16))) &&& (kI 63))]) 17 rfl H
  exact pRetI H
/-- TwoCamps$Wood.isBoy(I)Z -/
def f_222 (w : Nat) (p1 : Int32) (M : pMem) : Int32 := if p1 < 0 then (kI 0) else if (M w 0) ≤ p1 then (kI 0) else (kI 1)
theorem f_222_ok {X : aX} {F d : Nat} {K : Nat → aK} (hS : pS K) {w : Nat} {p1 : Int32} (hw : pK 10 w = true) {M : pMem} {out : Option Value × aH} (H : aM X F d 222 [.ref w, .int p1] (pH K M) = some out) : out = (some <| Value.int (f_222 w p1 M), pH K M) := by
  obtain ⟨d', g0, _, H⟩ := pEnt (n := 2) (ls := [.ref w, .int p1]) (mcb_222 rfl) (by decide +kernel) rfl H
  unfold f_222
  replace H := pRun (ls' := [.ref w, .int p1]) (st' := [.int p1]) 1 rfl H
  rcases pIf0 (n1 := 3) rfl (mcb_222 rfl) (mcb_222 rfl) H with ⟨g1, g0, _, H⟩ | ⟨g1, g0, _, H⟩
  · rw [if_pos (show p1 < 0 from g1)]
    replace H := pRun (ls' := [.ref w, .int p1]) (st' := [.int (kI 0)]) 1 rfl H
    obtain ⟨g0, _, H⟩ := pFall (mcb_222 rfl) H
    exact pRetI H
  · rw [if_neg (show ¬ (p1 < 0) from g1)]
    replace H := pRun (ls' := [.ref w, .int p1]) (st' := [.ref w, .int p1]) 2 rfl H
    replace H := pGetN (v := M w 0) rfl (by decide) H
    rcases pIfc (n1 := 3) rfl (mcb_222 rfl) (mcb_222 rfl) H with ⟨g2, g0, _, H⟩ | ⟨g2, g0, _, H⟩
    · rw [if_pos (show (M w 0) ≤ p1 from g2)]
      replace H := pRun (ls' := [.ref w, .int p1]) (st' := [.int (kI 0)]) 1 rfl H
      obtain ⟨g0, _, H⟩ := pFall (mcb_222 rfl) H
      exact pRetI H
    · rw [if_neg (show ¬ ((M w 0) ≤ p1) from g2)]
      replace H := pRun (ls' := [.ref w, .int p1]) (st' := [.int (kI 1)]) 1 rfl H
      obtain ⟨g0, _, H⟩ := pGo (n1 := 4) rfl (mcb_222 rfl) H
      exact pRetI H
/-- TwoCamps$Wood.isCouple(II)Z -/
def f_223 (w : Nat) (p1 : Int32) (p2 : Int32) (M : pMem) : Int32 := if (f_222 w p1 M) = 0 then (kI 0) else if (f_222 w p2 M) = 0 then (kI 0) else if p1 = p2 then (kI 0) else (kI 1)
theorem f_223_ok {X : aX} {F d : Nat} {K : Nat → aK} (hS : pS K) {w : Nat} {p1 : Int32} {p2 : Int32} (hw : pK 10 w = true) {M : pMem} {out : Option Value × aH} (H : aM X F d 223 [.ref w, .int p1, .int p2] (pH K M) = some out) : out = (some <| Value.int (f_223 w p1 p2 M), pH K M) := by
  obtain ⟨d', g0, _, H⟩ := pEnt (n := 3) (ls := [.ref w, .int p1, .int p2]) (mcb_223 rfl) (by decide +kernel) rfl H
  unfold f_223
  replace H := pRun (ls' := [.ref w, .int p1, .int p2]) (st' := [.int p1, .ref w]) 2 rfl H
  obtain ⟨rv, h1, hc, H⟩ := pCalV 222 1 w (as := [.int p1]) (rest := []) rfl (by decide) (by decide +kernel) rfl rfl H
  replace H := pUseF (f_222_ok hS hw hc) H
  rcases pIf0 (n1 := 4) rfl (mcb_223 rfl) (mcb_223 rfl) H with ⟨g1, g0, _, H⟩ | ⟨g1, g0, _, H⟩
  · rw [if_pos (show (f_222 w p1 M) = 0 from g1)]
    replace H := pRun (ls' := [.ref w, .int p1, .int p2]) (st' := [.int (kI 0)]) 1 rfl H
    obtain ⟨g0, _, H⟩ := pFall (mcb_223 rfl) H
    exact pRetI H
  · rw [if_neg (show ¬ ((f_222 w p1 M) = 0) from g1)]
    replace H := pRun (ls' := [.ref w, .int p1, .int p2]) (st' := [.int p2, .ref w]) 2 rfl H
    obtain ⟨rv, h1, hc, H⟩ := pCalV 222 1 w (as := [.int p2]) (rest := []) rfl (by decide) (by decide +kernel) rfl rfl H
    replace H := pUseF (f_222_ok hS hw hc) H
    rcases pIf0 (n1 := 4) rfl (mcb_223 rfl) (mcb_223 rfl) H with ⟨g2, g0, _, H⟩ | ⟨g2, g0, _, H⟩
    · rw [if_pos (show (f_222 w p2 M) = 0 from g2)]
      replace H := pRun (ls' := [.ref w, .int p1, .int p2]) (st' := [.int (kI 0)]) 1 rfl H
      obtain ⟨g0, _, H⟩ := pFall (mcb_223 rfl) H
      exact pRetI H
    · rw [if_neg (show ¬ ((f_222 w p2 M) = 0) from g2)]
      replace H := pRun (ls' := [.ref w, .int p1, .int p2]) (st' := [.int p2, .int p1]) 2 rfl H
      rcases pIfc (n1 := 4) rfl (mcb_223 rfl) (mcb_223 rfl) H with ⟨g3, g0, _, H⟩ | ⟨g3, g0, _, H⟩
      · rw [if_pos (show p1 = p2 from g3)]
        replace H := pRun (ls' := [.ref w, .int p1, .int p2]) (st' := [.int (kI 0)]) 1 rfl H
        obtain ⟨g0, _, H⟩ := pFall (mcb_223 rfl) H
        exact pRetI H
      · rw [if_neg (show ¬ (p1 = p2) from g3)]
        replace H := pRun (ls' := [.ref w, .int p1, .int p2]) (st' := [.int (kI 1)]) 1 rfl H
        obtain ⟨g0, _, H⟩ := pGo (n1 := 5) rfl (mcb_223 rfl) H
        exact pRetI H
/-- TwoCamps$Wood.lotOf(I)I -/
def f_225 (w : Nat) (p1 : Int32) (M : pMem) : Int32 := ((pUsr (M w 1) p1) &&& (kI 1))
theorem f_225_ok {X : aX} {F d : Nat} {K : Nat → aK} (hS : pS K) {w : Nat} {p1 : Int32} (hw : pK 10 w = true) {M : pMem} {out : Option Value × aH} (H : aM X F d 225 [.ref w, .int p1] (pH K M) = some out) : out = (some <| Value.int (f_225 w p1 M), pH K M) := by
  obtain ⟨d', g0, _, H⟩ := pEnt (n := 2) (ls := [.ref w, .int p1]) (mcb_225 rfl) (by decide +kernel) rfl H
  unfold f_225
  replace H := pRun (ls' := [.ref w, .int p1]) (st' := [.ref w]) 1 rfl H
  replace H := pGetN (v := M w 1) rfl (by decide) H
  replace H := pRun (ls' := [.ref w, .int p1]) (st' := [.int ((pUsr (M w 1) p1) &&& (kI 1))]) 4 rfl H
  exact pRetI H
/-- TwoCamps$Wood.members(I)I -/
def f_226 (w : Nat) (p1 : Int32) (M : pMem) : Int32 := if ¬ p1 = 0 then ((M w 2) &&& (M w 1)) else ((M w 2) &&& ((M w 1) ^^^ (kI (-1))))
theorem f_226_ok {X : aX} {F d : Nat} {K : Nat → aK} (hS : pS K) {w : Nat} {p1 : Int32} (hw : pK 10 w = true) {M : pMem} {out : Option Value × aH} (H : aM X F d 226 [.ref w, .int p1] (pH K M) = some out) : out = (some <| Value.int (f_226 w p1 M), pH K M) := by
  obtain ⟨d', g0, _, H⟩ := pEnt (n := 2) (ls := [.ref w, .int p1]) (mcb_226 rfl) (by decide +kernel) rfl H
  unfold f_226
  replace H := pRun (ls' := [.ref w, .int p1]) (st' := [.ref w]) 1 rfl H
  replace H := pGetN (v := M w 2) rfl (by decide) H
  replace H := pRun (ls' := [.ref w, .int p1]) (st' := [.int p1, .int (M w 2)]) 1 rfl H
  rcases pIf0 (n1 := 2) rfl (mcb_226 rfl) (mcb_226 rfl) H with ⟨g1, g0, _, H⟩ | ⟨g1, g0, _, H⟩
  · rw [if_pos (show ¬ p1 = 0 from g1)]
    replace H := pRun (ls' := [.ref w, .int p1]) (st' := [.ref w, .int (M w 2)]) 1 rfl H
    replace H := pGetN (v := M w 1) rfl (by decide) H
    obtain ⟨g0, _, H⟩ := pFall (mcb_226 rfl) H
    replace H := pRun (ls' := [.ref w, .int p1]) (st' := [.int ((M w 2) &&& (M w 1))]) 1 rfl H
    exact pRetI H
  · rw [if_neg (show ¬ (¬ p1 = 0) from g1)]
    replace H := pRun (ls' := [.ref w, .int p1]) (st' := [.ref w, .int (M w 2)]) 1 rfl H
    replace H := pGetN (v := M w 1) rfl (by decide) H
    replace H := pRun (ls' := [.ref w, .int p1]) (st' := [.int ((M w 1) ^^^ (kI (-1))), .int (M w 2)]) 2 rfl H
    obtain ⟨g0, _, H⟩ := pGo (n1 := 3) rfl (mcb_226 rfl) H
    replace H := pRun (ls' := [.ref w, .int p1]) (st' := [.int ((M w 2) &&& ((M w 1) ^^^ (kI (-1))))]) 1 rfl H
    exact pRetI H
/-- TwoCamps$Wood.size(I)I -/
def f_227 (w : Nat) (p1 : Int32) (M : pMem) : Int32 := (f_239 (f_226 w p1 M))
theorem f_227_ok {X : aX} {F d : Nat} {K : Nat → aK} (hS : pS K) {w : Nat} {p1 : Int32} (hw : pK 10 w = true) {M : pMem} {out : Option Value × aH} (H : aM X F d 227 [.ref w, .int p1] (pH K M) = some out) : out = (some <| Value.int (f_227 w p1 M), pH K M) := by
  obtain ⟨d', g0, _, H⟩ := pEnt (n := 2) (ls := [.ref w, .int p1]) (mcb_227 rfl) (by decide +kernel) rfl H
  unfold f_227
  replace H := pRun (ls' := [.ref w, .int p1]) (st' := [.int p1, .ref w]) 2 rfl H
  obtain ⟨rv, h1, hc, H⟩ := pCalV 226 1 w (as := [.int p1]) (rest := []) rfl (by decide) (by decide +kernel) rfl rfl H
  replace H := pUseF (f_226_ok hS hw hc) H
  obtain ⟨rv, h1, hc, H⟩ := pCalT 239 1 (as := [.int (f_226 w p1 M)]) (rest := []) rfl (by decide) (by decide +kernel) rfl rfl H
  replace H := pUseF (f_239_ok hS hc) H
  exact pRetI H
/-- TwoCamps$Wood.likeSum(II)I -/
def S_232_1 (w : Nat) (p1 : Int32) (p2 : Int32) (P1 : Int32 → Int32 → pMem → pT Int32) (P3 : Int32 → Int32 → Int32 → pMem → pT Int32) (x3 : Int32) (x4 : Int32) (M : pMem) : pT Int32 := tIf ((kI 24) ≤ x4) (tRet x3 M) (P3 x3 x4 (kI 0) M)
def S_232_3 (w : Nat) (p1 : Int32) (p2 : Int32) (P1 : Int32 → Int32 → pMem → pT Int32) (P3 : Int32 → Int32 → Int32 → pMem → pT Int32) (x3 : Int32) (x4 : Int32) (x5 : Int32) (M : pMem) : pT Int32 := tIf ((f_37 p1 x4) = 0) (P1 x3 (x4 + kI 1) M) (tIf ((kI 24) ≤ x5) (P1 x3 (x4 + kI 1) M) (tIf (x5 = x4) (P3 x3 x4 (x5 + kI 1) M) (tIf ((f_37 p2 x5) = 0) (P3 x3 x4 (x5 + kI 1) M) (tGd (pIn ((x4 * (kI 24)) + x5) 576) <| P3 (x3 + (M (w + 3) (ix ((x4 * (kI 24)) + x5)))) x4 (x5 + kI 1) M))))
def C_232 (w : Nat) (p1 : Int32) (p2 : Int32) (P1 : Int32 → Int32 → pMem → pT Int32) (P3 : Int32 → Int32 → Int32 → pMem → pT Int32) : Prop := (∀ (x3 : Int32) (x4 : Int32) M v N, S_232_1 w p1 p2 P1 P3 x3 x4 M v N → P1 x3 x4 M v N) ∧ (∀ (x3 : Int32) (x4 : Int32) (x5 : Int32) M v N, S_232_3 w p1 p2 P1 P3 x3 x4 x5 M v N → P3 x3 x4 x5 M v N)
def L_232_1 (w : Nat) (p1 : Int32) (p2 : Int32) (x3 : Int32) (x4 : Int32) (M : pMem) : pT Int32 := fun v N => ∀ P : (Int32 → Int32 → pMem → pT Int32) × (Int32 → Int32 → Int32 → pMem → pT Int32), C_232 w p1 p2 P.1 P.2 → P.1 x3 x4 M v N
def L_232_3 (w : Nat) (p1 : Int32) (p2 : Int32) (x3 : Int32) (x4 : Int32) (x5 : Int32) (M : pMem) : pT Int32 := fun v N => ∀ P : (Int32 → Int32 → pMem → pT Int32) × (Int32 → Int32 → Int32 → pMem → pT Int32), C_232 w p1 p2 P.1 P.2 → P.2 x3 x4 x5 M v N
def D_232 (w : Nat) (p1 : Int32) (p2 : Int32) (M : pMem) : pT Int32 := L_232_1 w p1 p2 (kI 0) (kI 0) M
theorem K_232 {X : aX} {F d : Nat} {K : Nat → aK} (hS : pS K) {w : Nat} {p1 : Int32} {p2 : Int32} (hw : pK 10 w = true) {out : Option Value × aH} (P1 : Int32 → Int32 → pMem → pT Int32) (P3 : Int32 → Int32 → Int32 → pMem → pT Int32) (hC : C_232 w p1 p2 P1 P3) : ∀ f, (∀ (x3 : Int32) (x4 : Int32) (u5 : Value) M, pm X F d 232 f 1 [.iload 4, .bipush 24, .if_icmp .ge 10] [.ref w, .int p1, .int p2, .int x3, .int x4, u5] [] (pH K M) out → pG eI K out (P1 x3 x4 M)) ∧ (∀ (x3 : Int32) (x4 : Int32) (x5 : Int32) M, pm X F d 232 f 3 [.iload 1, .iload 4, .invokestatic 901037, .ifCond .eq 9] [.ref w, .int p1, .int p2, .int x3, .int x4, .int x5] [] (pH K M) out → pG eI K out (P3 x3 x4 x5 M)) := by
  intro f
  induction f using Nat.strongRecOn with
  | _ f ih =>
    refine ⟨?_, ?_⟩
    · intro x3 x4 u5 M H
      refine pG_mono (fun v N h => hC.1 x3 x4 M v N h) ?_
      unfold S_232_1
      replace H := pRun (ls' := [.ref w, .int p1, .int p2, .int x3, .int x4, u5]) (st' := [.int (kI 24), .int x4]) 2 rfl H
      rcases pIfc (n1 := 10) rfl (mcb_232 rfl) (mcb_232 rfl) H with ⟨g1, g0, _, H⟩ | ⟨g1, g0, _, H⟩
      · refine pG_pos (c := (kI 24) ≤ x4) g1 ?_
        replace H := pRun (ls' := [.ref w, .int p1, .int p2, .int x3, .int x4, u5]) (st' := [.int x3]) 1 rfl H
        exact pG_ret (pRetI H)
      · refine pG_neg (c := (kI 24) ≤ x4) g1 ?_
        replace H := pRun (ls' := [.ref w, .int p1, .int p2, .int x3, .int x4, .int (kI 0)]) (st' := []) 2 rfl H
        obtain ⟨g0, _, H⟩ := pFall (mcb_232 rfl) H
        exact (ih _ (by omega)).2 _ _ _  _ H
    · intro x3 x4 x5 M H
      refine pG_mono (fun v N h => hC.2 x3 x4 x5 M v N h) ?_
      unfold S_232_3
      replace H := pRun (ls' := [.ref w, .int p1, .int p2, .int x3, .int x4, .int x5]) (st' := [.int x4, .int p1]) 2 rfl H
      obtain ⟨rv, h1, hc, H⟩ := pCalT 37 2 (as := [.int p1, .int x4]) (rest := []) rfl (by decide) (by decide +kernel) rfl rfl H
      replace H := pUseF (f_37_ok hS hc) H
      rcases pIf0 (n1 := 9) rfl (mcb_232 rfl) (mcb_232 rfl) H with ⟨g1, g0, _, H⟩ | ⟨g1, g0, _, H⟩
      · refine pG_pos (c := (f_37 p1 x4) = 0) g1 ?_
        replace H := pRun (ls' := [.ref w, .int p1, .int p2, .int x3, .int (x4 + kI 1), .int x5]) (st' := []) 1 rfl H
        obtain ⟨g0, _, H⟩ := pGo (n1 := 1) rfl (mcb_232 rfl) H
        exact (ih _ (by omega)).1 _ _ _  _ H
      · refine pG_neg (c := (f_37 p1 x4) = 0) g1 ?_
        replace H := pRun (ls' := [.ref w, .int p1, .int p2, .int x3, .int x4, .int x5]) (st' := [.int (kI 24), .int x5]) 2 rfl H
        rcases pIfc (n1 := 9) rfl (mcb_232 rfl) (mcb_232 rfl) H with ⟨g2, g0, _, H⟩ | ⟨g2, g0, _, H⟩
        · refine pG_pos (c := (kI 24) ≤ x5) g2 ?_
          replace H := pRun (ls' := [.ref w, .int p1, .int p2, .int x3, .int (x4 + kI 1), .int x5]) (st' := []) 1 rfl H
          obtain ⟨g0, _, H⟩ := pGo (n1 := 1) rfl (mcb_232 rfl) H
          exact (ih _ (by omega)).1 _ _ _  _ H
        · refine pG_neg (c := (kI 24) ≤ x5) g2 ?_
          replace H := pRun (ls' := [.ref w, .int p1, .int p2, .int x3, .int x4, .int x5]) (st' := [.int x4, .int x5]) 2 rfl H
          rcases pIfc (n1 := 8) rfl (mcb_232 rfl) (mcb_232 rfl) H with ⟨g3, g0, _, H⟩ | ⟨g3, g0, _, H⟩
          · refine pG_pos (c := x5 = x4) g3 ?_
            replace H := pRun (ls' := [.ref w, .int p1, .int p2, .int x3, .int x4, .int (x5 + kI 1)]) (st' := []) 1 rfl H
            obtain ⟨g0, _, H⟩ := pGo (n1 := 3) rfl (mcb_232 rfl) H
            exact (ih _ (by omega)).2 _ _ _  _ H
          · refine pG_neg (c := x5 = x4) g3 ?_
            replace H := pRun (ls' := [.ref w, .int p1, .int p2, .int x3, .int x4, .int x5]) (st' := [.int x5, .int p2]) 2 rfl H
            obtain ⟨rv, h1, hc, H⟩ := pCalT 37 2 (as := [.int p2, .int x5]) (rest := []) rfl (by decide) (by decide +kernel) rfl rfl H
            replace H := pUseF (f_37_ok hS hc) H
            rcases pIf0 (n1 := 8) rfl (mcb_232 rfl) (mcb_232 rfl) H with ⟨g4, g0, _, H⟩ | ⟨g4, g0, _, H⟩
            · refine pG_pos (c := (f_37 p2 x5) = 0) g4 ?_
              replace H := pRun (ls' := [.ref w, .int p1, .int p2, .int x3, .int x4, .int (x5 + kI 1)]) (st' := []) 1 rfl H
              obtain ⟨g0, _, H⟩ := pGo (n1 := 3) rfl (mcb_232 rfl) H
              exact (ih _ (by omega)).2 _ _ _  _ H
            · refine pG_neg (c := (f_37 p2 x5) = 0) g4 ?_
              replace H := pRun (ls' := [.ref w, .int p1, .int p2, .int x3, .int x4, .int x5]) (st' := [.ref w, .int x3]) 2 rfl H
              replace H := pGetR (r := w + 3) (pRw hS hw (by decide +kernel)) rfl H
              replace H := pRun (ls' := [.ref w, .int p1, .int p2, .int x3, .int x4, .int x5]) (st' := [.int ((x4 * (kI 24)) + x5), .ref (w + 3), .int x3]) 5 rfl H
              obtain ⟨g5, H⟩ := pIld (n := 576) (pLt (pRl (n := 576) hw (by decide +kernel))) (pLn hS (pRl (n := 576) hw (by decide +kernel))) H
              refine pG_gd g5 ?_
              replace H := pRun (ls' := [.ref w, .int p1, .int p2, .int (x3 + (M (w + 3) (ix ((x4 * (kI 24)) + x5)))), .int x4, .int x5]) (st' := []) 2 rfl H
              obtain ⟨g0, _, H⟩ := pFall (mcb_232 rfl) H
              replace H := pRun (ls' := [.ref w, .int p1, .int p2, .int (x3 + (M (w + 3) (ix ((x4 * (kI 24)) + x5)))), .int x4, .int (x5 + kI 1)]) (st' := []) 1 rfl H
              obtain ⟨g0, _, H⟩ := pGo (n1 := 3) rfl (mcb_232 rfl) H
              exact (ih _ (by omega)).2 _ _ _  _ H
theorem L_232_1_ok {X : aX} {F d : Nat} {K : Nat → aK} (hS : pS K) {w : Nat} {p1 : Int32} {p2 : Int32} (hw : pK 10 w = true) {out : Option Value × aH} {f : Nat} {x3 : Int32} {x4 : Int32} {u5 : Value} {M : pMem} (H : pm X F d 232 f 1 [.iload 4, .bipush 24, .if_icmp .ge 10] [.ref w, .int p1, .int p2, .int x3, .int x4, u5] [] (pH K M) out) : pG eI K out (L_232_1 w p1 p2 x3 x4 M) := by
  refine pG_all (C := fun P : (Int32 → Int32 → pMem → pT Int32) × (Int32 → Int32 → Int32 → pMem → pT Int32) => C_232 w p1 p2 P.1 P.2) (T := fun P => P.1 x3 x4 M) eI_inj ((fun _ _ _ _ _ => True), (fun _ _ _ _ _ _ => True)) ?_ (fun P hP => (K_232 hS hw P.1 P.2 hP f).1 _ _ _ _ H)
  exact ⟨(fun _ _ _ _ _ _ => trivial), (fun _ _ _ _ _ _ _ => trivial)⟩
theorem L_232_3_ok {X : aX} {F d : Nat} {K : Nat → aK} (hS : pS K) {w : Nat} {p1 : Int32} {p2 : Int32} (hw : pK 10 w = true) {out : Option Value × aH} {f : Nat} {x3 : Int32} {x4 : Int32} {x5 : Int32} {M : pMem} (H : pm X F d 232 f 3 [.iload 1, .iload 4, .invokestatic 901037, .ifCond .eq 9] [.ref w, .int p1, .int p2, .int x3, .int x4, .int x5] [] (pH K M) out) : pG eI K out (L_232_3 w p1 p2 x3 x4 x5 M) := by
  refine pG_all (C := fun P : (Int32 → Int32 → pMem → pT Int32) × (Int32 → Int32 → Int32 → pMem → pT Int32) => C_232 w p1 p2 P.1 P.2) (T := fun P => P.2 x3 x4 x5 M) eI_inj ((fun _ _ _ _ _ => True), (fun _ _ _ _ _ _ => True)) ?_ (fun P hP => (K_232 hS hw P.1 P.2 hP f).2 _ _ _ _ H)
  exact ⟨(fun _ _ _ _ _ _ => trivial), (fun _ _ _ _ _ _ _ => trivial)⟩
theorem D_232_ok {X : aX} {F d : Nat} {K : Nat → aK} (hS : pS K) {w : Nat} {p1 : Int32} {p2 : Int32} (hw : pK 10 w = true) {M : pMem} {out : Option Value × aH} (H : aM X F d 232 [.ref w, .int p1, .int p2] (pH K M) = some out) : pG eI K out (D_232 w p1 p2 M) := by
  obtain ⟨d', g0, _, H⟩ := pEnt (n := 6) (ls := [.ref w, .int p1, .int p2, aD, aD, aD]) (mcb_232 rfl) (by decide +kernel) rfl H
  unfold D_232
  replace H := pRun (ls' := [.ref w, .int p1, .int p2, .int (kI 0), .int (kI 0), aD]) (st' := []) 4 rfl H
  obtain ⟨g0, _, H⟩ := pFall (mcb_232 rfl) H
  exact L_232_1_ok hS hw  H
def l_232 (w : Nat) : List (Nat × Nat) := []
theorem FC_232 {w : Nat} {p1 : Int32} {p2 : Int32} (hw : pK 10 w = true) : C_232 w p1 p2 (fun _ _ M _ N => pFr (l_232 w) M N) (fun _ _ _ M _ N => pFr (l_232 w) M N) := ⟨fun x3 x4 M => show pTf (l_232 w) M (S_232_1 w p1 p2 _ _ x3 x4 M) from (tf_if (tf_ret pFr_refl) (tf_jump pFr_refl)), fun x3 x4 x5 M => show pTf (l_232 w) M (S_232_3 w p1 p2 _ _ x3 x4 x5 M) from (tf_if (tf_jump pFr_refl) (tf_if (tf_jump pFr_refl) (tf_if (tf_jump pFr_refl) (tf_if (tf_jump pFr_refl) (tf_gd fun g5 => (tf_jump pFr_refl))))))⟩
theorem F_232 {w : Nat} {p1 : Int32} {p2 : Int32} (hw : pK 10 w = true) {M : pMem} {v : Int32} {N : pMem} (h : D_232 w p1 p2 M v N) : pFr (l_232 w) M N :=
  (show pTf (l_232 w) M (D_232 w p1 p2 M) from (tf_jumpL (fun _ _ M _ N => pFr (l_232 w) M N, fun _ _ _ M _ N => pFr (l_232 w) M N) (FC_232 hw) rfl pFr_refl)) v N h
/-- TwoCamps$Wood.meanLike(II)I -/
def D_231 (w : Nat) (p1 : Int32) (p2 : Int32) (M : pMem) : pT Int32 := tCall (D_232 w p1 p2 M) fun v1 M1 => tRet (f_38 v1 (((f_239 p1) * (f_239 p2)) - (f_239 (p1 &&& p2)))) M1
theorem D_231_ok {X : aX} {F d : Nat} {K : Nat → aK} (hS : pS K) {w : Nat} {p1 : Int32} {p2 : Int32} (hw : pK 10 w = true) {M : pMem} {out : Option Value × aH} (H : aM X F d 231 [.ref w, .int p1, .int p2] (pH K M) = some out) : pG eI K out (D_231 w p1 p2 M) := by
  obtain ⟨d', g0, _, H⟩ := pEnt (n := 4) (ls := [.ref w, .int p1, .int p2, aD]) (mcb_231 rfl) (by decide +kernel) rfl H
  unfold D_231
  replace H := pRun (ls' := [.ref w, .int p1, .int p2, aD]) (st' := [.int p1]) 1 rfl H
  obtain ⟨rv, h1, hc, H⟩ := pCalT 239 1 (as := [.int p1]) (rest := []) rfl (by decide) (by decide +kernel) rfl rfl H
  replace H := pUseF (f_239_ok hS hc) H
  replace H := pRun (ls' := [.ref w, .int p1, .int p2, aD]) (st' := [.int p2, .int (f_239 p1)]) 1 rfl H
  obtain ⟨rv, h1, hc, H⟩ := pCalT 239 1 (as := [.int p2]) (rest := [.int (f_239 p1)]) rfl (by decide) (by decide +kernel) rfl rfl H
  replace H := pUseF (f_239_ok hS hc) H
  replace H := pRun (ls' := [.ref w, .int p1, .int p2, aD]) (st' := [.int (p1 &&& p2), .int ((f_239 p1) * (f_239 p2))]) 4 rfl H
  obtain ⟨rv, h1, hc, H⟩ := pCalT 239 1 (as := [.int (p1 &&& p2)]) (rest := [.int ((f_239 p1) * (f_239 p2))]) rfl (by decide) (by decide +kernel) rfl rfl H
  replace H := pUseF (f_239_ok hS hc) H
  replace H := pRun (ls' := [.ref w, .int p1, .int p2, .int (((f_239 p1) * (f_239 p2)) - (f_239 (p1 &&& p2)))]) (st' := [.int p2, .int p1, .ref w]) 5 rfl H
  obtain ⟨rv, h1, hc, H⟩ := pCalV 232 2 w (as := [.int p1, .int p2]) (rest := []) rfl (by decide) (by decide +kernel) rfl rfl H
  obtain ⟨v1, M1, hD, H⟩ := pUseI (D_232_ok hS hw hc) H
  refine pG_call (x := v1) (M1 := M1) hD ?_
  replace H := pRun (ls' := [.ref w, .int p1, .int p2, .int (((f_239 p1) * (f_239 p2)) - (f_239 (p1 &&& p2)))]) (st' := [.int (((f_239 p1) * (f_239 p2)) - (f_239 (p1 &&& p2))), .int v1]) 1 rfl H
  obtain ⟨rv, h1, hc, H⟩ := pCalT 38 2 (as := [.int v1, .int (((f_239 p1) * (f_239 p2)) - (f_239 (p1 &&& p2)))]) (rest := []) rfl (by decide) (by decide +kernel) rfl rfl H
  replace H := pUseF (f_38_ok hS hc) H
  exact pG_ret (pRetI H)
def l_231 (w : Nat) : List (Nat × Nat) := []
theorem F_231 {w : Nat} {p1 : Int32} {p2 : Int32} (hw : pK 10 w = true) {M : pMem} {v : Int32} {N : pMem} (h : D_231 w p1 p2 M v N) : pFr (l_231 w) M N :=
  (show pTf (l_231 w) M (D_231 w p1 p2 M) from (tf_call pFr_refl (fun _ _ h => F_232 hw h) [] rfl fun _ M1 f1 => (tf_ret f1))) v N h
/-- TwoCamps$Wood.own(I)I -/
def D_228 (w : Nat) (p1 : Int32) (M : pMem) : pT Int32 := tCall (D_231 w (f_226 w p1 M) (f_226 w p1 M) M) fun v1 M1 => tRet v1 M1
theorem D_228_ok {X : aX} {F d : Nat} {K : Nat → aK} (hS : pS K) {w : Nat} {p1 : Int32} (hw : pK 10 w = true) {M : pMem} {out : Option Value × aH} (H : aM X F d 228 [.ref w, .int p1] (pH K M) = some out) : pG eI K out (D_228 w p1 M) := by
  obtain ⟨d', g0, _, H⟩ := pEnt (n := 2) (ls := [.ref w, .int p1]) (mcb_228 rfl) (by decide +kernel) rfl H
  unfold D_228
  replace H := pRun (ls' := [.ref w, .int p1]) (st' := [.int p1, .ref w, .ref w]) 3 rfl H
  obtain ⟨rv, h1, hc, H⟩ := pCalV 226 1 w (as := [.int p1]) (rest := [.ref w]) rfl (by decide) (by decide +kernel) rfl rfl H
  replace H := pUseF (f_226_ok hS hw hc) H
  replace H := pRun (ls' := [.ref w, .int p1]) (st' := [.int p1, .ref w, .int (f_226 w p1 M), .ref w]) 2 rfl H
  obtain ⟨rv, h1, hc, H⟩ := pCalV 226 1 w (as := [.int p1]) (rest := [.int (f_226 w p1 M), .ref w]) rfl (by decide) (by decide +kernel) rfl rfl H
  replace H := pUseF (f_226_ok hS hw hc) H
  obtain ⟨rv, h1, hc, H⟩ := pCalV 231 2 w (as := [.int (f_226 w p1 M), .int (f_226 w p1 M)]) (rest := []) rfl (by decide) (by decide +kernel) rfl rfl H
  obtain ⟨v1, M1, hD, H⟩ := pUseI (D_231_ok hS hw hc) H
  refine pG_call (x := v1) (M1 := M1) hD ?_
  exact pG_ret (pRetI H)
def l_228 (w : Nat) : List (Nat × Nat) := []
theorem F_228 {w : Nat} {p1 : Int32} (hw : pK 10 w = true) {M : pMem} {v : Int32} {N : pMem} (h : D_228 w p1 M v N) : pFr (l_228 w) M N :=
  (show pTf (l_228 w) M (D_228 w p1 M) from (tf_call pFr_refl (fun _ _ h => F_231 hw h) [] rfl fun _ M1 f1 => (tf_ret f1))) v N h
/-- TwoCamps$Wood.across(I)I -/
def D_229 (w : Nat) (p1 : Int32) (M : pMem) : pT Int32 := tCall (D_231 w (f_226 w p1 M) (f_226 w ((kI 1) - p1) M) M) fun v1 M1 => tRet v1 M1
theorem D_229_ok {X : aX} {F d : Nat} {K : Nat → aK} (hS : pS K) {w : Nat} {p1 : Int32} (hw : pK 10 w = true) {M : pMem} {out : Option Value × aH} (H : aM X F d 229 [.ref w, .int p1] (pH K M) = some out) : pG eI K out (D_229 w p1 M) := by
  obtain ⟨d', g0, _, H⟩ := pEnt (n := 2) (ls := [.ref w, .int p1]) (mcb_229 rfl) (by decide +kernel) rfl H
  unfold D_229
  replace H := pRun (ls' := [.ref w, .int p1]) (st' := [.int p1, .ref w, .ref w]) 3 rfl H
  obtain ⟨rv, h1, hc, H⟩ := pCalV 226 1 w (as := [.int p1]) (rest := [.ref w]) rfl (by decide) (by decide +kernel) rfl rfl H
  replace H := pUseF (f_226_ok hS hw hc) H
  replace H := pRun (ls' := [.ref w, .int p1]) (st' := [.int ((kI 1) - p1), .ref w, .int (f_226 w p1 M), .ref w]) 4 rfl H
  obtain ⟨rv, h1, hc, H⟩ := pCalV 226 1 w (as := [.int ((kI 1) - p1)]) (rest := [.int (f_226 w p1 M), .ref w]) rfl (by decide) (by decide +kernel) rfl rfl H
  replace H := pUseF (f_226_ok hS hw hc) H
  obtain ⟨rv, h1, hc, H⟩ := pCalV 231 2 w (as := [.int (f_226 w p1 M), .int (f_226 w ((kI 1) - p1) M)]) (rest := []) rfl (by decide) (by decide +kernel) rfl rfl H
  obtain ⟨v1, M1, hD, H⟩ := pUseI (D_231_ok hS hw hc) H
  refine pG_call (x := v1) (M1 := M1) hD ?_
  exact pG_ret (pRetI H)
def l_229 (w : Nat) : List (Nat × Nat) := []
theorem F_229 {w : Nat} {p1 : Int32} (hw : pK 10 w = true) {M : pMem} {v : Int32} {N : pMem} (h : D_229 w p1 M v N) : pFr (l_229 w) M N :=
  (show pTf (l_229 w) M (D_229 w p1 M) from (tf_call pFr_refl (fun _ _ h => F_231 hw h) [] rfl fun _ M1 f1 => (tf_ret f1))) v N h
/-- TwoCamps$Wood.cross()I -/
def D_230 (w : Nat) (M : pMem) : pT Int32 := tCall (D_232 w (f_226 w (kI 0) M) (f_226 w (kI 1) M) M) fun v1 M1 => tCall (D_232 w (f_226 w (kI 1) M) (f_226 w (kI 0) M) M1) fun v2 M2 => tRet (f_38 (v1 + v2) (((kI 2) * (f_239 (f_226 w (kI 0) M))) * (f_239 (f_226 w (kI 1) M)))) M2
theorem D_230_ok {X : aX} {F d : Nat} {K : Nat → aK} (hS : pS K) {w : Nat} (hw : pK 10 w = true) {M : pMem} {out : Option Value × aH} (H : aM X F d 230 [.ref w] (pH K M) = some out) : pG eI K out (D_230 w M) := by
  obtain ⟨d', g0, _, H⟩ := pEnt (n := 4) (ls := [.ref w, aD, aD, aD]) (mcb_230 rfl) (by decide +kernel) rfl H
  unfold D_230
  replace H := pRun (ls' := [.ref w, aD, aD, aD]) (st' := [.int (kI 0), .ref w]) 2 rfl H
  obtain ⟨rv, h1, hc, H⟩ := pCalV 226 1 w (as := [.int (kI 0)]) (rest := []) rfl (by decide) (by decide +kernel) rfl rfl H
  replace H := pUseF (f_226_ok hS hw hc) H
  replace H := pRun (ls' := [.ref w, .int (f_226 w (kI 0) M), aD, aD]) (st' := [.int (kI 1), .ref w]) 3 rfl H
  obtain ⟨rv, h1, hc, H⟩ := pCalV 226 1 w (as := [.int (kI 1)]) (rest := []) rfl (by decide) (by decide +kernel) rfl rfl H
  replace H := pUseF (f_226_ok hS hw hc) H
  replace H := pRun (ls' := [.ref w, .int (f_226 w (kI 0) M), .int (f_226 w (kI 1) M), aD]) (st' := [.int (f_226 w (kI 0) M), .int (kI 2)]) 3 rfl H
  obtain ⟨rv, h1, hc, H⟩ := pCalT 239 1 (as := [.int (f_226 w (kI 0) M)]) (rest := [.int (kI 2)]) rfl (by decide) (by decide +kernel) rfl rfl H
  replace H := pUseF (f_239_ok hS hc) H
  replace H := pRun (ls' := [.ref w, .int (f_226 w (kI 0) M), .int (f_226 w (kI 1) M), aD]) (st' := [.int (f_226 w (kI 1) M), .int ((kI 2) * (f_239 (f_226 w (kI 0) M)))]) 2 rfl H
  obtain ⟨rv, h1, hc, H⟩ := pCalT 239 1 (as := [.int (f_226 w (kI 1) M)]) (rest := [.int ((kI 2) * (f_239 (f_226 w (kI 0) M)))]) rfl (by decide) (by decide +kernel) rfl rfl H
  replace H := pUseF (f_239_ok hS hc) H
  replace H := pRun (ls' := [.ref w, .int (f_226 w (kI 0) M), .int (f_226 w (kI 1) M), .int (((kI 2) * (f_239 (f_226 w (kI 0) M))) * (f_239 (f_226 w (kI 1) M)))]) (st' := [.int (f_226 w (kI 1) M), .int (f_226 w (kI 0) M), .ref w]) 5 rfl H
  obtain ⟨rv, h1, hc, H⟩ := pCalV 232 2 w (as := [.int (f_226 w (kI 0) M), .int (f_226 w (kI 1) M)]) (rest := []) rfl (by decide) (by decide +kernel) rfl rfl H
  obtain ⟨v1, M1, hD, H⟩ := pUseI (D_232_ok hS hw hc) H
  refine pG_call (x := v1) (M1 := M1) hD ?_
  replace H := pRun (ls' := [.ref w, .int (f_226 w (kI 0) M), .int (f_226 w (kI 1) M), .int (((kI 2) * (f_239 (f_226 w (kI 0) M))) * (f_239 (f_226 w (kI 1) M)))]) (st' := [.int (f_226 w (kI 0) M), .int (f_226 w (kI 1) M), .ref w, .int v1]) 3 rfl H
  obtain ⟨rv, h1, hc, H⟩ := pCalV 232 2 w (as := [.int (f_226 w (kI 1) M), .int (f_226 w (kI 0) M)]) (rest := [.int v1]) rfl (by decide) (by decide +kernel) rfl rfl H
  obtain ⟨v2, M2, hD, H⟩ := pUseI (D_232_ok hS hw hc) H
  refine pG_call (x := v2) (M1 := M2) hD ?_
  replace H := pRun (ls' := [.ref w, .int (f_226 w (kI 0) M), .int (f_226 w (kI 1) M), .int (((kI 2) * (f_239 (f_226 w (kI 0) M))) * (f_239 (f_226 w (kI 1) M)))]) (st' := [.int (((kI 2) * (f_239 (f_226 w (kI 0) M))) * (f_239 (f_226 w (kI 1) M))), .int (v1 + v2)]) 2 rfl H
  obtain ⟨rv, h1, hc, H⟩ := pCalT 38 2 (as := [.int (v1 + v2), .int (((kI 2) * (f_239 (f_226 w (kI 0) M))) * (f_239 (f_226 w (kI 1) M)))]) (rest := []) rfl (by decide) (by decide +kernel) rfl rfl H
  replace H := pUseF (f_38_ok hS hc) H
  exact pG_ret (pRetI H)
def l_230 (w : Nat) : List (Nat × Nat) := []
theorem F_230 {w : Nat} (hw : pK 10 w = true) {M : pMem} {v : Int32} {N : pMem} (h : D_230 w M v N) : pFr (l_230 w) M N :=
  (show pTf (l_230 w) M (D_230 w M) from (tf_call pFr_refl (fun _ _ h => F_232 hw h) [] rfl fun _ M1 f1 => (tf_call f1 (fun _ _ h => F_232 hw h) [] rfl fun _ M2 f2 => (tf_ret f2)))) v N h
/-- TwoCamps$Wood.drawOfTen()I -/
def D_234 (w : Nat) (M : pMem) : pT Int32 := tPut (aPut M w 5 (((kI 1664525) * (M w 5)) + (kI 1013904223))) fun M1 => tGd (¬ (kI 10) = 0) <| tRet (pRem (pUsr (M1 w 5) (kI 8)) (kI 10)) M1
theorem D_234_ok {X : aX} {F d : Nat} {K : Nat → aK} (hS : pS K) {w : Nat} (hw : pK 10 w = true) {M : pMem} {out : Option Value × aH} (H : aM X F d 234 [.ref w] (pH K M) = some out) : pG eI K out (D_234 w M) := by
  obtain ⟨d', g0, _, H⟩ := pEnt (n := 1) (ls := [.ref w]) (mcb_234 rfl) (by decide +kernel) rfl H
  unfold D_234
  replace H := pRun (ls' := [.ref w]) (st' := [.ref w]) 1 rfl H
  replace H := pLdc (x := 1664525) (by decide) H
  replace H := pRun (ls' := [.ref w]) (st' := [.ref w, .int (kI 1664525), .ref w]) 1 rfl H
  replace H := pGetN (v := M w 5) rfl (by decide) H
  replace H := pRun (ls' := [.ref w]) (st' := [.int ((kI 1664525) * (M w 5)), .ref w]) 1 rfl H
  replace H := pLdc (x := 1013904223) (by decide) H
  replace H := pRun (ls' := [.ref w]) (st' := [.int (((kI 1664525) * (M w 5)) + (kI 1013904223)), .ref w]) 1 rfl H
  obtain ⟨M1, eM1, H⟩ := pPutN (j := 5) rfl H
  refine pG_put (M2 := M1) eM1 ?_
  replace H := pRun (ls' := [.ref w]) (st' := [.ref w]) 1 rfl H
  replace H := pGetN (v := M1 w 5) rfl (by decide) H
  replace H := pRun (ls' := [.ref w]) (st' := [.int (kI 10), .int (pUsr (M1 w 5) (kI 8))]) 3 rfl H
  obtain ⟨g1, H⟩ := pRmd H
  refine pG_gd g1 ?_
  exact pG_ret (pRetI H)
def l_234 (w : Nat) : List (Nat × Nat) := [(w, 5)]
theorem F_234 {w : Nat} (hw : pK 10 w = true) {M : pMem} {v : Int32} {N : pMem} (h : D_234 w M v N) : pFr (l_234 w) M N :=
  (show pTf (l_234 w) M (D_234 w M) from (tf_put pFr_refl 0 rfl fun M1 f1 => (tf_gd fun g1 => (tf_ret f1)))) v N h
/-- TwoCamps$Wood.score(I)I -/
def S_233_1 (w : Nat) (p1 : Int32) (P1 : Int32 → Int32 → Int32 → pMem → pT Int32) (x2 : Int32) (x3 : Int32) (x4 : Int32) (M : pMem) : pT Int32 := tIf ((kI 24) ≤ x4) (tRet x3 M) (tIf ((f_37 x2 x4) = 0) (P1 x2 x3 (x4 + kI 1) M) (tGd (pIn x4 24) <| P1 x2 (x3 + (M (w + 1) (ix x4))) (x4 + kI 1) M))
def C_233 (w : Nat) (p1 : Int32) (P1 : Int32 → Int32 → Int32 → pMem → pT Int32) : Prop := (∀ (x2 : Int32) (x3 : Int32) (x4 : Int32) M v N, S_233_1 w p1 P1 x2 x3 x4 M v N → P1 x2 x3 x4 M v N)
def L_233_1 (w : Nat) (p1 : Int32) (x2 : Int32) (x3 : Int32) (x4 : Int32) (M : pMem) : pT Int32 := fun v N => ∀ P : (Int32 → Int32 → Int32 → pMem → pT Int32), C_233 w p1 P → P x2 x3 x4 M v N
def D_233 (w : Nat) (p1 : Int32) (M : pMem) : pT Int32 := tCall (D_231 w (f_226 w p1 M) (f_226 w p1 M) M) fun v1 M1 => tGd (¬ (kI 5) = 0) <| tCall (D_234 w M1) fun v2 M2 => L_233_1 w p1 (f_226 w p1 M) ((pFd v1 (kI 5)) + v2) (kI 0) M2
theorem K_233 {X : aX} {F d : Nat} {K : Nat → aK} (hS : pS K) {w : Nat} {p1 : Int32} (hw : pK 10 w = true) {out : Option Value × aH} (P1 : Int32 → Int32 → Int32 → pMem → pT Int32) (hC : C_233 w p1 P1) : ∀ f, (∀ (x2 : Int32) (x3 : Int32) (x4 : Int32) M, pm X F d 233 f 1 [.iload 4, .bipush 24, .if_icmp .ge 5] [.ref w, .int p1, .int x2, .int x3, .int x4] [] (pH K M) out → pG eI K out (P1 x2 x3 x4 M)) := by
  intro f
  induction f using Nat.strongRecOn with
  | _ f ih =>
    intro x2 x3 x4 M H
    refine pG_mono (fun v N h => hC x2 x3 x4 M v N h) ?_
    unfold S_233_1
    replace H := pRun (ls' := [.ref w, .int p1, .int x2, .int x3, .int x4]) (st' := [.int (kI 24), .int x4]) 2 rfl H
    rcases pIfc (n1 := 5) rfl (mcb_233 rfl) (mcb_233 rfl) H with ⟨g1, g0, _, H⟩ | ⟨g1, g0, _, H⟩
    · refine pG_pos (c := (kI 24) ≤ x4) g1 ?_
      replace H := pRun (ls' := [.ref w, .int p1, .int x2, .int x3, .int x4]) (st' := [.int x3]) 1 rfl H
      exact pG_ret (pRetI H)
    · refine pG_neg (c := (kI 24) ≤ x4) g1 ?_
      replace H := pRun (ls' := [.ref w, .int p1, .int x2, .int x3, .int x4]) (st' := [.int x4, .int x2]) 2 rfl H
      obtain ⟨rv, h1, hc, H⟩ := pCalT 37 2 (as := [.int x2, .int x4]) (rest := []) rfl (by decide) (by decide +kernel) rfl rfl H
      replace H := pUseF (f_37_ok hS hc) H
      rcases pIf0 (n1 := 4) rfl (mcb_233 rfl) (mcb_233 rfl) H with ⟨g2, g0, _, H⟩ | ⟨g2, g0, _, H⟩
      · refine pG_pos (c := (f_37 x2 x4) = 0) g2 ?_
        replace H := pRun (ls' := [.ref w, .int p1, .int x2, .int x3, .int (x4 + kI 1)]) (st' := []) 1 rfl H
        obtain ⟨g0, _, H⟩ := pGo (n1 := 1) rfl (mcb_233 rfl) H
        exact (ih _ (by omega)) _ _ _  _ H
      · refine pG_neg (c := (f_37 x2 x4) = 0) g2 ?_
        replace H := pRun (ls' := [.ref w, .int p1, .int x2, .int x3, .int x4]) (st' := [.ref w, .int x3]) 2 rfl H
        replace H := pGetR (r := w + 1) (pRw hS hw (by decide +kernel)) rfl H
        replace H := pRun (ls' := [.ref w, .int p1, .int x2, .int x3, .int x4]) (st' := [.int x4, .ref (w + 1), .int x3]) 1 rfl H
        obtain ⟨g3, H⟩ := pIld (n := 24) (pLt (pRl (n := 24) hw (by decide +kernel))) (pLn hS (pRl (n := 24) hw (by decide +kernel))) H
        refine pG_gd g3 ?_
        replace H := pRun (ls' := [.ref w, .int p1, .int x2, .int (x3 + (M (w + 1) (ix x4))), .int x4]) (st' := []) 2 rfl H
        obtain ⟨g0, _, H⟩ := pFall (mcb_233 rfl) H
        replace H := pRun (ls' := [.ref w, .int p1, .int x2, .int (x3 + (M (w + 1) (ix x4))), .int (x4 + kI 1)]) (st' := []) 1 rfl H
        obtain ⟨g0, _, H⟩ := pGo (n1 := 1) rfl (mcb_233 rfl) H
        exact (ih _ (by omega)) _ _ _  _ H
theorem L_233_1_ok {X : aX} {F d : Nat} {K : Nat → aK} (hS : pS K) {w : Nat} {p1 : Int32} (hw : pK 10 w = true) {out : Option Value × aH} {f : Nat} {x2 : Int32} {x3 : Int32} {x4 : Int32} {M : pMem} (H : pm X F d 233 f 1 [.iload 4, .bipush 24, .if_icmp .ge 5] [.ref w, .int p1, .int x2, .int x3, .int x4] [] (pH K M) out) : pG eI K out (L_233_1 w p1 x2 x3 x4 M) := by
  refine pG_all (C := fun P : (Int32 → Int32 → Int32 → pMem → pT Int32) => C_233 w p1 P) (T := fun P => P x2 x3 x4 M) eI_inj (fun _ _ _ _ _ _ => True) ?_ (fun P hP => (K_233 hS hw P hP f) _ _ _ _ H)
  exact (fun _ _ _ _ _ _ _ => trivial)
theorem D_233_ok {X : aX} {F d : Nat} {K : Nat → aK} (hS : pS K) {w : Nat} {p1 : Int32} (hw : pK 10 w = true) {M : pMem} {out : Option Value × aH} (H : aM X F d 233 [.ref w, .int p1] (pH K M) = some out) : pG eI K out (D_233 w p1 M) := by
  obtain ⟨d', g0, _, H⟩ := pEnt (n := 5) (ls := [.ref w, .int p1, aD, aD, aD]) (mcb_233 rfl) (by decide +kernel) rfl H
  unfold D_233
  replace H := pRun (ls' := [.ref w, .int p1, aD, aD, aD]) (st' := [.int p1, .ref w]) 2 rfl H
  obtain ⟨rv, h1, hc, H⟩ := pCalV 226 1 w (as := [.int p1]) (rest := []) rfl (by decide) (by decide +kernel) rfl rfl H
  replace H := pUseF (f_226_ok hS hw hc) H
  replace H := pRun (ls' := [.ref w, .int p1, .int (f_226 w p1 M), aD, aD]) (st' := [.int (f_226 w p1 M), .int (f_226 w p1 M), .ref w]) 4 rfl H
  obtain ⟨rv, h1, hc, H⟩ := pCalV 231 2 w (as := [.int (f_226 w p1 M), .int (f_226 w p1 M)]) (rest := []) rfl (by decide) (by decide +kernel) rfl rfl H
  obtain ⟨v1, M1, hD, H⟩ := pUseI (D_231_ok hS hw hc) H
  refine pG_call (x := v1) (M1 := M1) hD ?_
  replace H := pRun (ls' := [.ref w, .int p1, .int (f_226 w p1 M), aD, aD]) (st' := [.int (kI 5), .int v1]) 1 rfl H
  obtain ⟨g1, H⟩ := pFdv rfl H
  refine pG_gd g1 ?_
  replace H := pRun (ls' := [.ref w, .int p1, .int (f_226 w p1 M), aD, aD]) (st' := [.ref w, .int (pFd v1 (kI 5))]) 1 rfl H
  obtain ⟨rv, h1, hc, H⟩ := pCalV 234 0 w (as := []) (rest := [.int (pFd v1 (kI 5))]) rfl (by decide) (by decide +kernel) rfl rfl H
  obtain ⟨v2, M2, hD, H⟩ := pUseI (D_234_ok hS hw hc) H
  refine pG_call (x := v2) (M1 := M2) hD ?_
  replace H := pRun (ls' := [.ref w, .int p1, .int (f_226 w p1 M), .int ((pFd v1 (kI 5)) + v2), .int (kI 0)]) (st' := []) 4 rfl H
  obtain ⟨g0, _, H⟩ := pFall (mcb_233 rfl) H
  exact L_233_1_ok hS hw  H
def l_233 (w : Nat) : List (Nat × Nat) := [(w, 5)]
theorem FC_233 {w : Nat} {p1 : Int32} (hw : pK 10 w = true) : C_233 w p1 (fun _ _ _ M _ N => pFr (l_233 w) M N) := fun x2 x3 x4 M => show pTf (l_233 w) M (S_233_1 w p1 _ x2 x3 x4 M) from (tf_if (tf_ret pFr_refl) (tf_if (tf_jump pFr_refl) (tf_gd fun g3 => (tf_jump pFr_refl))))
theorem F_233 {w : Nat} {p1 : Int32} (hw : pK 10 w = true) {M : pMem} {v : Int32} {N : pMem} (h : D_233 w p1 M v N) : pFr (l_233 w) M N :=
  (show pTf (l_233 w) M (D_233 w p1 M) from (tf_call pFr_refl (fun _ _ h => F_231 hw h) [] rfl fun _ M1 f1 => (tf_gd fun g1 => (tf_call f1 (fun _ _ h => F_234 hw h) [0] rfl fun _ M2 f2 => (tf_jumpL (fun _ _ _ M _ N => pFr (l_233 w) M N) (FC_233 hw) rfl f2))))) v N h
/-- TwoCamps$Wood.count(III)V -/
def D_235 (w : Nat) (p1 : Int32) (p2 : Int32) (p3 : Int32) (M : pMem) : pT Unit := tGd (pIn ((p1 * (kI 2)) + p2) 18) <| tGd (pIn ((p1 * (kI 2)) + p2) 18) <| tPut (aPut M (w + 4) (ix ((p1 * (kI 2)) + p2)) ((M (w + 4) (ix ((p1 * (kI 2)) + p2))) + p3)) fun M1 => tRet () M1
theorem D_235_ok {X : aX} {F d : Nat} {K : Nat → aK} (hS : pS K) {w : Nat} {p1 : Int32} {p2 : Int32} {p3 : Int32} (hw : pK 10 w = true) {M : pMem} {out : Option Value × aH} (H : aM X F d 235 [.ref w, .int p1, .int p2, .int p3] (pH K M) = some out) : pG eU K out (D_235 w p1 p2 p3 M) := by
  obtain ⟨d', g0, _, H⟩ := pEnt (n := 4) (ls := [.ref w, .int p1, .int p2, .int p3]) (mcb_235 rfl) (by decide +kernel) rfl H
  unfold D_235
  replace H := pRun (ls' := [.ref w, .int p1, .int p2, .int p3]) (st' := [.ref w]) 1 rfl H
  replace H := pGetR (r := w + 4) (pRw hS hw (by decide +kernel)) rfl H
  replace H := pRun (ls' := [.ref w, .int p1, .int p2, .int p3]) (st' := [.int ((p1 * (kI 2)) + p2), .ref (w + 4), .int ((p1 * (kI 2)) + p2), .ref (w + 4)]) 6 rfl H
  obtain ⟨g1, H⟩ := pIld (n := 18) (pLt (pRl (n := 18) hw (by decide +kernel))) (pLn hS (pRl (n := 18) hw (by decide +kernel))) H
  refine pG_gd g1 ?_
  replace H := pRun (ls' := [.ref w, .int p1, .int p2, .int p3]) (st' := [.int ((M (w + 4) (ix ((p1 * (kI 2)) + p2))) + p3), .int ((p1 * (kI 2)) + p2), .ref (w + 4)]) 2 rfl H
  obtain ⟨g2, M1, eM1, H⟩ := pIst (n := 18) (pLn hS (pRl (n := 18) hw (by decide +kernel))) H
  refine pG_gd g2 (pG_put (M2 := M1) eM1 ?_)
  exact pG_ret (pRetU H)
def l_235 (w : Nat) : List (Nat × Nat) := [(w + 4, 999)]
theorem F_235 {w : Nat} {p1 : Int32} {p2 : Int32} {p3 : Int32} (hw : pK 10 w = true) {M : pMem} {v : Unit} {N : pMem} (h : D_235 w p1 p2 p3 M v N) : pFr (l_235 w) M N :=
  (show pTf (l_235 w) M (D_235 w p1 p2 p3 M) from (tf_gd fun g1 => (tf_gd fun g2 => (tf_putA pFr_refl 0 rfl fun M1 f1 => (tf_ret f1))))) v N h
/-- TwoCamps$Wood.tallied(I)I -/
def f_236 (w : Nat) (p1 : Int32) (M : pMem) : Int32 := ((M (w + 4) (ix (p1 * (kI 2)))) + (M (w + 4) (ix ((p1 * (kI 2)) + (kI 1)))))
theorem f_236_ok {X : aX} {F d : Nat} {K : Nat → aK} (hS : pS K) {w : Nat} {p1 : Int32} (hw : pK 10 w = true) {M : pMem} {out : Option Value × aH} (H : aM X F d 236 [.ref w, .int p1] (pH K M) = some out) : out = (some <| Value.int (f_236 w p1 M), pH K M) := by
  obtain ⟨d', g0, _, H⟩ := pEnt (n := 2) (ls := [.ref w, .int p1]) (mcb_236 rfl) (by decide +kernel) rfl H
  unfold f_236
  replace H := pRun (ls' := [.ref w, .int p1]) (st' := [.ref w]) 1 rfl H
  replace H := pGetR (r := w + 4) (pRw hS hw (by decide +kernel)) rfl H
  replace H := pRun (ls' := [.ref w, .int p1]) (st' := [.int (p1 * (kI 2)), .ref (w + 4)]) 3 rfl H
  obtain ⟨g1, H⟩ := pIld (n := 18) (pLt (pRl (n := 18) hw (by decide +kernel))) (pLn hS (pRl (n := 18) hw (by decide +kernel))) H
  replace H := pRun (ls' := [.ref w, .int p1]) (st' := [.ref w, .int (M (w + 4) (ix (p1 * (kI 2))))]) 1 rfl H
  replace H := pGetR (r := w + 4) (pRw hS hw (by decide +kernel)) rfl H
  replace H := pRun (ls' := [.ref w, .int p1]) (st' := [.int ((p1 * (kI 2)) + (kI 1)), .ref (w + 4), .int (M (w + 4) (ix (p1 * (kI 2))))]) 5 rfl H
  obtain ⟨g2, H⟩ := pIld (n := 18) (pLt (pRl (n := 18) hw (by decide +kernel))) (pLn hS (pRl (n := 18) hw (by decide +kernel))) H
  replace H := pRun (ls' := [.ref w, .int p1]) (st' := [.int ((M (w + 4) (ix (p1 * (kI 2)))) + (M (w + 4) (ix ((p1 * (kI 2)) + (kI 1)))))]) 1 rfl H
  exact pRetI H
/-- TwoCamps$Wood.isNamed(I)Z -/
def f_237 (w : Nat) (p1 : Int32) (M : pMem) : Int32 := if (M (w + 4) (ix ((kI 6) + p1))) ≤ 0 then (kI 0) else (kI 1)
theorem f_237_ok {X : aX} {F d : Nat} {K : Nat → aK} (hS : pS K) {w : Nat} {p1 : Int32} (hw : pK 10 w = true) {M : pMem} {out : Option Value × aH} (H : aM X F d 237 [.ref w, .int p1] (pH K M) = some out) : out = (some <| Value.int (f_237 w p1 M), pH K M) := by
  obtain ⟨d', g0, _, H⟩ := pEnt (n := 2) (ls := [.ref w, .int p1]) (mcb_237 rfl) (by decide +kernel) rfl H
  unfold f_237
  replace H := pRun (ls' := [.ref w, .int p1]) (st' := [.ref w]) 1 rfl H
  replace H := pGetR (r := w + 4) (pRw hS hw (by decide +kernel)) rfl H
  replace H := pRun (ls' := [.ref w, .int p1]) (st' := [.int ((kI 6) + p1), .ref (w + 4)]) 3 rfl H
  obtain ⟨g1, H⟩ := pIld (n := 18) (pLt (pRl (n := 18) hw (by decide +kernel))) (pLn hS (pRl (n := 18) hw (by decide +kernel))) H
  rcases pIf0 (n1 := 2) rfl (mcb_237 rfl) (mcb_237 rfl) H with ⟨g2, g0, _, H⟩ | ⟨g2, g0, _, H⟩
  · rw [if_pos (show (M (w + 4) (ix ((kI 6) + p1))) ≤ 0 from g2)]
    replace H := pRun (ls' := [.ref w, .int p1]) (st' := [.int (kI 0)]) 1 rfl H
    obtain ⟨g0, _, H⟩ := pFall (mcb_237 rfl) H
    exact pRetI H
  · rw [if_neg (show ¬ ((M (w + 4) (ix ((kI 6) + p1))) ≤ 0) from g2)]
    replace H := pRun (ls' := [.ref w, .int p1]) (st' := [.int (kI 1)]) 1 rfl H
    obtain ⟨g0, _, H⟩ := pGo (n1 := 3) rfl (mcb_237 rfl) H
    exact pRetI H
/-- TwoCamps$Wood.names()I -/
def f_238 (w : Nat) (M : pMem) : Int32 := if (f_237 w (kI 0) M) = 0 then if (f_237 w (kI 1) M) = 0 then ((kI 0) + (kI 0)) else ((kI 0) + (kI 1)) else if (f_237 w (kI 1) M) = 0 then ((kI 1) + (kI 0)) else ((kI 1) + (kI 1))
theorem f_238_ok {X : aX} {F d : Nat} {K : Nat → aK} (hS : pS K) {w : Nat} (hw : pK 10 w = true) {M : pMem} {out : Option Value × aH} (H : aM X F d 238 [.ref w] (pH K M) = some out) : out = (some <| Value.int (f_238 w M), pH K M) := by
  obtain ⟨d', g0, _, H⟩ := pEnt (n := 1) (ls := [.ref w]) (mcb_238 rfl) (by decide +kernel) rfl H
  unfold f_238
  replace H := pRun (ls' := [.ref w]) (st' := [.int (kI 0), .ref w]) 2 rfl H
  obtain ⟨rv, h1, hc, H⟩ := pCalV 237 1 w (as := [.int (kI 0)]) (rest := []) rfl (by decide) (by decide +kernel) rfl rfl H
  replace H := pUseF (f_237_ok hS hw hc) H
  rcases pIf0 (n1 := 2) rfl (mcb_238 rfl) (mcb_238 rfl) H with ⟨g1, g0, _, H⟩ | ⟨g1, g0, _, H⟩
  · rw [if_pos (show (f_237 w (kI 0) M) = 0 from g1)]
    replace H := pRun (ls' := [.ref w]) (st' := [.int (kI 0)]) 1 rfl H
    obtain ⟨g0, _, H⟩ := pFall (mcb_238 rfl) H
    replace H := pRun (ls' := [.ref w]) (st' := [.int (kI 1), .ref w, .int (kI 0)]) 2 rfl H
    obtain ⟨rv, h1, hc, H⟩ := pCalV 237 1 w (as := [.int (kI 1)]) (rest := [.int (kI 0)]) rfl (by decide) (by decide +kernel) rfl rfl H
    replace H := pUseF (f_237_ok hS hw hc) H
    rcases pIf0 (n1 := 5) rfl (mcb_238 rfl) (mcb_238 rfl) H with ⟨g2, g0, _, H⟩ | ⟨g2, g0, _, H⟩
    · rw [if_pos (show (f_237 w (kI 1) M) = 0 from g2)]
      replace H := pRun (ls' := [.ref w]) (st' := [.int (kI 0), .int (kI 0)]) 1 rfl H
      obtain ⟨g0, _, H⟩ := pFall (mcb_238 rfl) H
      replace H := pRun (ls' := [.ref w]) (st' := [.int ((kI 0) + (kI 0))]) 1 rfl H
      exact pRetI H
    · rw [if_neg (show ¬ ((f_237 w (kI 1) M) = 0) from g2)]
      replace H := pRun (ls' := [.ref w]) (st' := [.int (kI 1), .int (kI 0)]) 1 rfl H
      obtain ⟨g0, _, H⟩ := pGo (n1 := 6) rfl (mcb_238 rfl) H
      replace H := pRun (ls' := [.ref w]) (st' := [.int ((kI 0) + (kI 1))]) 1 rfl H
      exact pRetI H
  · rw [if_neg (show ¬ ((f_237 w (kI 0) M) = 0) from g1)]
    replace H := pRun (ls' := [.ref w]) (st' := [.int (kI 1)]) 1 rfl H
    obtain ⟨g0, _, H⟩ := pGo (n1 := 3) rfl (mcb_238 rfl) H
    replace H := pRun (ls' := [.ref w]) (st' := [.int (kI 1), .ref w, .int (kI 1)]) 2 rfl H
    obtain ⟨rv, h1, hc, H⟩ := pCalV 237 1 w (as := [.int (kI 1)]) (rest := [.int (kI 1)]) rfl (by decide) (by decide +kernel) rfl rfl H
    replace H := pUseF (f_237_ok hS hw hc) H
    rcases pIf0 (n1 := 5) rfl (mcb_238 rfl) (mcb_238 rfl) H with ⟨g2, g0, _, H⟩ | ⟨g2, g0, _, H⟩
    · rw [if_pos (show (f_237 w (kI 1) M) = 0 from g2)]
      replace H := pRun (ls' := [.ref w]) (st' := [.int (kI 0), .int (kI 1)]) 1 rfl H
      obtain ⟨g0, _, H⟩ := pFall (mcb_238 rfl) H
      replace H := pRun (ls' := [.ref w]) (st' := [.int ((kI 1) + (kI 0))]) 1 rfl H
      exact pRetI H
    · rw [if_neg (show ¬ ((f_237 w (kI 1) M) = 0) from g2)]
      replace H := pRun (ls' := [.ref w]) (st' := [.int (kI 1), .int (kI 1)]) 1 rfl H
      obtain ⟨g0, _, H⟩ := pGo (n1 := 6) rfl (mcb_238 rfl) H
      replace H := pRun (ls' := [.ref w]) (st' := [.int ((kI 1) + (kI 1))]) 1 rfl H
      exact pRetI H
/-- TwoCamps$Wood.copyFrom(LTwoCamps$Wood;)V -/
def D_220 (w : Nat) (w2 : Nat) (M : pMem) : pT Unit := tPut (aPut M w 0 (M w2 0)) fun M1 => tPut (aPut M1 w 1 (M1 w2 1)) fun M2 => tPut (aPut M2 w 2 (M2 w2 2)) fun M3 => tPut (aPut M3 w 3 (M3 w2 3)) fun M4 => tPut (aPut M4 w 4 (M4 w2 4)) fun M5 => tPut (aPut M5 w 5 (M5 w2 5)) fun M6 => tPut (aPut M6 w 6 (M6 w2 6)) fun M7 => tPut (aPut M7 w 7 (M7 w2 7)) fun M8 => tPut (aPut M8 w 8 (M8 w2 8)) fun M9 => tPut (aPut M9 w 9 (M9 w2 9)) fun M10 => tPut (aPut M10 w 10 (M10 w2 10)) fun M11 => tPut (aPut M11 w 11 (M11 w2 11)) fun M12 => tPut (aRow M12 (w + 1) (va_cpy (M12 (w2 + 1)) (M12 (w + 1)) (ix (kI 0)) (ix (kI 0)) (ix (kI 24)))) fun M13 => tPut (aRow M13 (w + 2) (va_cpy (M13 (w2 + 2)) (M13 (w + 2)) (ix (kI 0)) (ix (kI 0)) (ix (kI 24)))) fun M14 => tPut (aRow M14 (w + 3) (va_cpy (M14 (w2 + 3)) (M14 (w + 3)) (ix (kI 0)) (ix (kI 0)) (ix (kI 576)))) fun M15 => tPut (aRow M15 (w + 4) (va_cpy (M15 (w2 + 4)) (M15 (w + 4)) (ix (kI 0)) (ix (kI 0)) (ix (kI 18)))) fun M16 => tRet () M16
theorem D_220_ok {X : aX} {F d : Nat} {K : Nat → aK} (hS : pS K) {w : Nat} {w2 : Nat} (hw : pK 10 w = true) (hw2 : pK 10 w2 = true) {M : pMem} {out : Option Value × aH} (H : aM X F d 220 [.ref w, .ref w2] (pH K M) = some out) : pG eU K out (D_220 w w2 M) := by
  obtain ⟨d', g0, _, H⟩ := pEnt (n := 2) (ls := [.ref w, .ref w2]) (mcb_220 rfl) (by decide +kernel) rfl H
  unfold D_220
  replace H := pRun (ls' := [.ref w, .ref w2]) (st' := [.ref w2, .ref w]) 2 rfl H
  replace H := pGetN (v := M w2 0) rfl (by decide) H
  obtain ⟨M1, eM1, H⟩ := pPutN (j := 0) rfl H
  refine pG_put (M2 := M1) eM1 ?_
  replace H := pRun (ls' := [.ref w, .ref w2]) (st' := [.ref w2, .ref w]) 2 rfl H
  replace H := pGetN (v := M1 w2 1) rfl (by decide) H
  obtain ⟨M2, eM2, H⟩ := pPutN (j := 1) rfl H
  refine pG_put (M2 := M2) eM2 ?_
  replace H := pRun (ls' := [.ref w, .ref w2]) (st' := [.ref w2, .ref w]) 2 rfl H
  replace H := pGetN (v := M2 w2 2) rfl (by decide) H
  obtain ⟨M3, eM3, H⟩ := pPutN (j := 2) rfl H
  refine pG_put (M2 := M3) eM3 ?_
  replace H := pRun (ls' := [.ref w, .ref w2]) (st' := [.ref w2, .ref w]) 2 rfl H
  replace H := pGetN (v := M3 w2 3) rfl (by decide) H
  obtain ⟨M4, eM4, H⟩ := pPutN (j := 3) rfl H
  refine pG_put (M2 := M4) eM4 ?_
  replace H := pRun (ls' := [.ref w, .ref w2]) (st' := [.ref w2, .ref w]) 2 rfl H
  replace H := pGetN (v := M4 w2 4) rfl (by decide) H
  obtain ⟨M5, eM5, H⟩ := pPutN (j := 4) rfl H
  refine pG_put (M2 := M5) eM5 ?_
  replace H := pRun (ls' := [.ref w, .ref w2]) (st' := [.ref w2, .ref w]) 2 rfl H
  replace H := pGetN (v := M5 w2 5) rfl (by decide) H
  obtain ⟨M6, eM6, H⟩ := pPutN (j := 5) rfl H
  refine pG_put (M2 := M6) eM6 ?_
  replace H := pRun (ls' := [.ref w, .ref w2]) (st' := [.ref w2, .ref w]) 2 rfl H
  replace H := pGetN (v := M6 w2 6) rfl (by decide) H
  obtain ⟨M7, eM7, H⟩ := pPutN (j := 6) rfl H
  refine pG_put (M2 := M7) eM7 ?_
  replace H := pRun (ls' := [.ref w, .ref w2]) (st' := [.ref w2, .ref w]) 2 rfl H
  replace H := pGetN (v := M7 w2 7) rfl (by decide) H
  obtain ⟨M8, eM8, H⟩ := pPutN (j := 7) rfl H
  refine pG_put (M2 := M8) eM8 ?_
  replace H := pRun (ls' := [.ref w, .ref w2]) (st' := [.ref w2, .ref w]) 2 rfl H
  replace H := pGetN (v := M8 w2 8) rfl (by decide) H
  obtain ⟨M9, eM9, H⟩ := pPutN (j := 8) rfl H
  refine pG_put (M2 := M9) eM9 ?_
  replace H := pRun (ls' := [.ref w, .ref w2]) (st' := [.ref w2, .ref w]) 2 rfl H
  replace H := pGetN (v := M9 w2 9) rfl (by decide) H
  obtain ⟨M10, eM10, H⟩ := pPutN (j := 9) rfl H
  refine pG_put (M2 := M10) eM10 ?_
  replace H := pRun (ls' := [.ref w, .ref w2]) (st' := [.ref w2, .ref w]) 2 rfl H
  replace H := pGetN (v := M10 w2 10) rfl (by decide) H
  obtain ⟨M11, eM11, H⟩ := pPutN (j := 10) rfl H
  refine pG_put (M2 := M11) eM11 ?_
  replace H := pRun (ls' := [.ref w, .ref w2]) (st' := [.ref w2, .ref w]) 2 rfl H
  replace H := pGetN (v := M11 w2 11) rfl (by decide) H
  obtain ⟨M12, eM12, H⟩ := pPutN (j := 11) rfl H
  refine pG_put (M2 := M12) eM12 ?_
  replace H := pRun (ls' := [.ref w, .ref w2]) (st' := [.ref w2]) 1 rfl H
  replace H := pGetR (r := w2 + 1) (pRw hS hw2 (by decide +kernel)) rfl H
  replace H := pRun (ls' := [.ref w, .ref w2]) (st' := [.ref w, .int (kI 0), .ref (w2 + 1)]) 2 rfl H
  replace H := pGetR (r := w + 1) (pRw hS hw (by decide +kernel)) rfl H
  replace H := pRun (ls' := [.ref w, .ref w2]) (st' := [.int (kI 24), .int (kI 0), .ref (w + 1), .int (kI 0), .ref (w2 + 1)]) 2 rfl H
  obtain ⟨M13, eM13, H⟩ := pCpy rfl H
  refine pG_put (M2 := M13) eM13 ?_
  replace H := pRun (ls' := [.ref w, .ref w2]) (st' := [.ref w2]) 1 rfl H
  replace H := pGetR (r := w2 + 2) (pRw hS hw2 (by decide +kernel)) rfl H
  replace H := pRun (ls' := [.ref w, .ref w2]) (st' := [.ref w, .int (kI 0), .ref (w2 + 2)]) 2 rfl H
  replace H := pGetR (r := w + 2) (pRw hS hw (by decide +kernel)) rfl H
  replace H := pRun (ls' := [.ref w, .ref w2]) (st' := [.int (kI 24), .int (kI 0), .ref (w + 2), .int (kI 0), .ref (w2 + 2)]) 2 rfl H
  obtain ⟨M14, eM14, H⟩ := pCpy rfl H
  refine pG_put (M2 := M14) eM14 ?_
  replace H := pRun (ls' := [.ref w, .ref w2]) (st' := [.ref w2]) 1 rfl H
  replace H := pGetR (r := w2 + 3) (pRw hS hw2 (by decide +kernel)) rfl H
  replace H := pRun (ls' := [.ref w, .ref w2]) (st' := [.ref w, .int (kI 0), .ref (w2 + 3)]) 2 rfl H
  replace H := pGetR (r := w + 3) (pRw hS hw (by decide +kernel)) rfl H
  replace H := pRun (ls' := [.ref w, .ref w2]) (st' := [.int (kI 576), .int (kI 0), .ref (w + 3), .int (kI 0), .ref (w2 + 3)]) 2 rfl H
  obtain ⟨M15, eM15, H⟩ := pCpy rfl H
  refine pG_put (M2 := M15) eM15 ?_
  replace H := pRun (ls' := [.ref w, .ref w2]) (st' := [.ref w2]) 1 rfl H
  replace H := pGetR (r := w2 + 4) (pRw hS hw2 (by decide +kernel)) rfl H
  replace H := pRun (ls' := [.ref w, .ref w2]) (st' := [.ref w, .int (kI 0), .ref (w2 + 4)]) 2 rfl H
  replace H := pGetR (r := w + 4) (pRw hS hw (by decide +kernel)) rfl H
  replace H := pRun (ls' := [.ref w, .ref w2]) (st' := [.int (kI 18), .int (kI 0), .ref (w + 4), .int (kI 0), .ref (w2 + 4)]) 2 rfl H
  obtain ⟨M16, eM16, H⟩ := pCpy rfl H
  refine pG_put (M2 := M16) eM16 ?_
  exact pG_ret (pRetU H)
def l_220 (w : Nat) (w2 : Nat) : List (Nat × Nat) := [(w, 0), (w, 1), (w, 2), (w, 3), (w, 4), (w, 5), (w, 6), (w, 7), (w, 8), (w, 9), (w, 10), (w, 11), (w + 1, 999), (w + 2, 999), (w + 3, 999), (w + 4, 999)]
theorem F_220 {w : Nat} {w2 : Nat} (hw : pK 10 w = true) (hw2 : pK 10 w2 = true) {M : pMem} {v : Unit} {N : pMem} (h : D_220 w w2 M v N) : pFr (l_220 w w2) M N :=
  (show pTf (l_220 w w2) M (D_220 w w2 M) from (tf_put pFr_refl 0 rfl fun M1 f1 => (tf_put f1 1 rfl fun M2 f2 => (tf_put f2 2 rfl fun M3 f3 => (tf_put f3 3 rfl fun M4 f4 => (tf_put f4 4 rfl fun M5 f5 => (tf_put f5 5 rfl fun M6 f6 => (tf_put f6 6 rfl fun M7 f7 => (tf_put f7 7 rfl fun M8 f8 => (tf_put f8 8 rfl fun M9 f9 => (tf_put f9 9 rfl fun M10 f10 => (tf_put f10 10 rfl fun M11 f11 => (tf_put f11 11 rfl fun M12 f12 => (tf_row f12 12 rfl fun M13 f13 => (tf_row f13 13 rfl fun M14 f14 => (tf_row f14 14 rfl fun M15 f15 => (tf_row f15 15 rfl fun M16 f16 => (tf_ret f16)))))))))))))))))) v N h
/-- TwoCamps$Wood.join(II)I -/
def D_221 (w : Nat) (p1 : Int32) (p2 : Int32) (M : pMem) : pT Int32 := tIf ((M w 0) < 0) (tRet (kI (-1)) M) (tIf ((M w 0) < (kI 24)) (tPut (aPut M w 0 ((M w 0) + (kI 1))) fun M1 => tGd (pIn (M w 0) 24) <| tPut (aPut M1 (w + 1) (ix (M w 0)) p2) fun M2 => tPut (aPut M2 w 1 ((M2 w 1) ||| (p1 <<< ((M w 0) &&& 31)))) fun M3 => tPut (aPut M3 w 2 ((M3 w 2) ||| ((kI 1) <<< ((M w 0) &&& 31)))) fun M4 => tPut (aPut M4 w 3 ((M4 w 3) ||| ((kI 1) <<< ((M w 0) &&& 31)))) fun M5 => tRet (M w 0) M5) (tRet (kI (-1)) M))
theorem D_221_ok {X : aX} {F d : Nat} {K : Nat → aK} (hS : pS K) {w : Nat} {p1 : Int32} {p2 : Int32} (hw : pK 10 w = true) {M : pMem} {out : Option Value × aH} (H : aM X F d 221 [.ref w, .int p1, .int p2] (pH K M) = some out) : pG eI K out (D_221 w p1 p2 M) := by
  obtain ⟨d', g0, _, H⟩ := pEnt (n := 4) (ls := [.ref w, .int p1, .int p2, aD]) (mcb_221 rfl) (by decide +kernel) rfl H
  unfold D_221
  replace H := pRun (ls' := [.ref w, .int p1, .int p2, aD]) (st' := [.ref w]) 1 rfl H
  replace H := pGetN (v := M w 0) rfl (by decide) H
  rcases pIf0 (n1 := 2) rfl (mcb_221 rfl) (mcb_221 rfl) H with ⟨g1, g0, _, H⟩ | ⟨g1, g0, _, H⟩
  · refine pG_pos (c := (M w 0) < 0) g1 ?_
    replace H := pRun (ls' := [.ref w, .int p1, .int p2, aD]) (st' := [.int (kI (-1))]) 1 rfl H
    exact pG_ret (pRetI H)
  · refine pG_neg (c := (M w 0) < 0) g1 ?_
    replace H := pRun (ls' := [.ref w, .int p1, .int p2, aD]) (st' := [.ref w]) 1 rfl H
    replace H := pGetN (v := M w 0) rfl (by decide) H
    replace H := pRun (ls' := [.ref w, .int p1, .int p2, aD]) (st' := [.int (kI 24), .int (M w 0)]) 1 rfl H
    rcases pIfc (n1 := 3) rfl (mcb_221 rfl) (mcb_221 rfl) H with ⟨g2, g0, _, H⟩ | ⟨g2, g0, _, H⟩
    · refine pG_pos (c := (M w 0) < (kI 24)) g2 ?_
      replace H := pRun (ls' := [.ref w, .int p1, .int p2, aD]) (st' := [.ref w]) 1 rfl H
      replace H := pGetN (v := M w 0) rfl (by decide) H
      replace H := pRun (ls' := [.ref w, .int p1, .int p2, .int (M w 0)]) (st' := [.ref w, .ref w]) 3 rfl H
      replace H := pGetN (v := M w 0) rfl (by decide) H
      replace H := pRun (ls' := [.ref w, .int p1, .int p2, .int (M w 0)]) (st' := [.int ((M w 0) + (kI 1)), .ref w]) 2 rfl H
      obtain ⟨M1, eM1, H⟩ := pPutN (j := 0) rfl H
      refine pG_put (M2 := M1) eM1 ?_
      replace H := pRun (ls' := [.ref w, .int p1, .int p2, .int (M w 0)]) (st' := [.ref w]) 1 rfl H
      replace H := pGetR (r := w + 1) (pRw hS hw (by decide +kernel)) rfl H
      replace H := pRun (ls' := [.ref w, .int p1, .int p2, .int (M w 0)]) (st' := [.int p2, .int (M w 0), .ref (w + 1)]) 2 rfl H
      obtain ⟨g3, M2, eM2, H⟩ := pIst (n := 24) (pLn hS (pRl (n := 24) hw (by decide +kernel))) H
      refine pG_gd g3 (pG_put (M2 := M2) eM2 ?_)
      replace H := pRun (ls' := [.ref w, .int p1, .int p2, .int (M w 0)]) (st' := [.ref w, .ref w]) 2 rfl H
      replace H := pGetN (v := M2 w 1) rfl (by decide) H
      replace H := pRun (ls' := [.ref w, .int p1, .int p2, .int (M w 0)]) (st' := [.int ((M2 w 1) ||| (p1 <<< ((M w 0) &&& 31))), .ref w]) 4 rfl H
      obtain ⟨M3, eM3, H⟩ := pPutN (j := 1) rfl H
      refine pG_put (M2 := M3) eM3 ?_
      replace H := pRun (ls' := [.ref w, .int p1, .int p2, .int (M w 0)]) (st' := [.ref w, .ref w]) 2 rfl H
      replace H := pGetN (v := M3 w 2) rfl (by decide) H
      replace H := pRun (ls' := [.ref w, .int p1, .int p2, .int (M w 0)]) (st' := [.int ((M3 w 2) ||| ((kI 1) <<< ((M w 0) &&& 31))), .ref w]) 4 rfl H
      obtain ⟨M4, eM4, H⟩ := pPutN (j := 2) rfl H
      refine pG_put (M2 := M4) eM4 ?_
      replace H := pRun (ls' := [.ref w, .int p1, .int p2, .int (M w 0)]) (st' := [.ref w, .ref w]) 2 rfl H
      replace H := pGetN (v := M4 w 3) rfl (by decide) H
      replace H := pRun (ls' := [.ref w, .int p1, .int p2, .int (M w 0)]) (st' := [.int ((M4 w 3) ||| ((kI 1) <<< ((M w 0) &&& 31))), .ref w]) 4 rfl H
      obtain ⟨M5, eM5, H⟩ := pPutN (j := 3) rfl H
      refine pG_put (M2 := M5) eM5 ?_
      replace H := pRun (ls' := [.ref w, .int p1, .int p2, .int (M w 0)]) (st' := [.int (M w 0)]) 1 rfl H
      exact pG_ret (pRetI H)
    · refine pG_neg (c := (M w 0) < (kI 24)) g2 ?_
      replace H := pRun (ls' := [.ref w, .int p1, .int p2, aD]) (st' := [.int (kI (-1))]) 1 rfl H
      exact pG_ret (pRetI H)
def l_221 (w : Nat) : List (Nat × Nat) := [(w, 0), (w + 1, 999), (w, 1), (w, 2), (w, 3)]
theorem F_221 {w : Nat} {p1 : Int32} {p2 : Int32} (hw : pK 10 w = true) {M : pMem} {v : Int32} {N : pMem} (h : D_221 w p1 p2 M v N) : pFr (l_221 w) M N :=
  (show pTf (l_221 w) M (D_221 w p1 p2 M) from (tf_if (tf_ret pFr_refl) (tf_if (tf_put pFr_refl 0 rfl fun M1 f1 => (tf_gd fun g3 => (tf_putA f1 1 rfl fun M2 f2 => (tf_put f2 2 rfl fun M3 f3 => (tf_put f3 3 rfl fun M4 f4 => (tf_put f4 4 rfl fun M5 f5 => (tf_ret f5))))))) (tf_ret pFr_refl)))) v N h
/-- TwoCamps$Wood.tellKnown(IIZ)V -/
def D_224 (w : Nat) (p1 : Int32) (p2 : Int32) (p3 : Int32) (M : pMem) : pT Unit := tIf (p3 = 0) (tGd (pIn p1 24) <| tGd (pIn p1 24) <| tPut (aPut M (w + 2) (ix p1) ((M (w + 2) (ix p1)) &&& (((kI 1) <<< (p2 &&& 31)) ^^^ (kI (-1))))) fun M1 => tIf (p3 = 0) (tGd (pIn p2 24) <| tGd (pIn p2 24) <| tPut (aPut M1 (w + 2) (ix p2) ((M1 (w + 2) (ix p2)) &&& (((kI 1) <<< (p1 &&& 31)) ^^^ (kI (-1))))) fun M2 => tRet () M2) (tGd (pIn p2 24) <| tGd (pIn p2 24) <| tPut (aPut M1 (w + 2) (ix p2) ((M1 (w + 2) (ix p2)) ||| ((kI 1) <<< (p1 &&& 31)))) fun M2 => tRet () M2)) (tGd (pIn p1 24) <| tGd (pIn p1 24) <| tPut (aPut M (w + 2) (ix p1) ((M (w + 2) (ix p1)) ||| ((kI 1) <<< (p2 &&& 31)))) fun M1 => tIf (p3 = 0) (tGd (pIn p2 24) <| tGd (pIn p2 24) <| tPut (aPut M1 (w + 2) (ix p2) ((M1 (w + 2) (ix p2)) &&& (((kI 1) <<< (p1 &&& 31)) ^^^ (kI (-1))))) fun M2 => tRet () M2) (tGd (pIn p2 24) <| tGd (pIn p2 24) <| tPut (aPut M1 (w + 2) (ix p2) ((M1 (w + 2) (ix p2)) ||| ((kI 1) <<< (p1 &&& 31)))) fun M2 => tRet () M2))
theorem D_224_ok {X : aX} {F d : Nat} {K : Nat → aK} (hS : pS K) {w : Nat} {p1 : Int32} {p2 : Int32} {p3 : Int32} (hw : pK 10 w = true) {M : pMem} {out : Option Value × aH} (H : aM X F d 224 [.ref w, .int p1, .int p2, .int p3] (pH K M) = some out) : pG eU K out (D_224 w p1 p2 p3 M) := by
  obtain ⟨d', g0, _, H⟩ := pEnt (n := 4) (ls := [.ref w, .int p1, .int p2, .int p3]) (mcb_224 rfl) (by decide +kernel) rfl H
  unfold D_224
  replace H := pRun (ls' := [.ref w, .int p1, .int p2, .int p3]) (st' := [.ref w]) 1 rfl H
  replace H := pGetR (r := w + 2) (pRw hS hw (by decide +kernel)) rfl H
  replace H := pRun (ls' := [.ref w, .int p1, .int p2, .int p3]) (st' := [.int p3, .int p1, .ref (w + 2)]) 2 rfl H
  rcases pIf0 (n1 := 2) rfl (mcb_224 rfl) (mcb_224 rfl) H with ⟨g1, g0, _, H⟩ | ⟨g1, g0, _, H⟩
  · refine pG_pos (c := p3 = 0) g1 ?_
    replace H := pRun (ls' := [.ref w, .int p1, .int p2, .int p3]) (st' := [.ref w, .int p1, .ref (w + 2)]) 1 rfl H
    replace H := pGetR (r := w + 2) (pRw hS hw (by decide +kernel)) rfl H
    replace H := pRun (ls' := [.ref w, .int p1, .int p2, .int p3]) (st' := [.int p1, .ref (w + 2), .int p1, .ref (w + 2)]) 1 rfl H
    obtain ⟨g2, H⟩ := pIld (n := 24) (pLt (pRl (n := 24) hw (by decide +kernel))) (pLn hS (pRl (n := 24) hw (by decide +kernel))) H
    refine pG_gd g2 ?_
    replace H := pRun (ls' := [.ref w, .int p1, .int p2, .int p3]) (st' := [.int ((M (w + 2) (ix p1)) &&& (((kI 1) <<< (p2 &&& 31)) ^^^ (kI (-1)))), .int p1, .ref (w + 2)]) 6 rfl H
    obtain ⟨g0, _, H⟩ := pFall (mcb_224 rfl) H
    obtain ⟨g3, M1, eM1, H⟩ := pIst (n := 24) (pLn hS (pRl (n := 24) hw (by decide +kernel))) H
    refine pG_gd g3 (pG_put (M2 := M1) eM1 ?_)
    replace H := pRun (ls' := [.ref w, .int p1, .int p2, .int p3]) (st' := [.ref w]) 1 rfl H
    replace H := pGetR (r := w + 2) (pRw hS hw (by decide +kernel)) rfl H
    replace H := pRun (ls' := [.ref w, .int p1, .int p2, .int p3]) (st' := [.int p3, .int p2, .ref (w + 2)]) 2 rfl H
    rcases pIf0 (n1 := 5) rfl (mcb_224 rfl) (mcb_224 rfl) H with ⟨g4, g0, _, H⟩ | ⟨g4, g0, _, H⟩
    · refine pG_pos (c := p3 = 0) g4 ?_
      replace H := pRun (ls' := [.ref w, .int p1, .int p2, .int p3]) (st' := [.ref w, .int p2, .ref (w + 2)]) 1 rfl H
      replace H := pGetR (r := w + 2) (pRw hS hw (by decide +kernel)) rfl H
      replace H := pRun (ls' := [.ref w, .int p1, .int p2, .int p3]) (st' := [.int p2, .ref (w + 2), .int p2, .ref (w + 2)]) 1 rfl H
      obtain ⟨g5, H⟩ := pIld (n := 24) (pLt (pRl (n := 24) hw (by decide +kernel))) (pLn hS (pRl (n := 24) hw (by decide +kernel))) H
      refine pG_gd g5 ?_
      replace H := pRun (ls' := [.ref w, .int p1, .int p2, .int p3]) (st' := [.int ((M1 (w + 2) (ix p2)) &&& (((kI 1) <<< (p1 &&& 31)) ^^^ (kI (-1)))), .int p2, .ref (w + 2)]) 6 rfl H
      obtain ⟨g0, _, H⟩ := pFall (mcb_224 rfl) H
      obtain ⟨g6, M2, eM2, H⟩ := pIst (n := 24) (pLn hS (pRl (n := 24) hw (by decide +kernel))) H
      refine pG_gd g6 (pG_put (M2 := M2) eM2 ?_)
      exact pG_ret (pRetU H)
    · refine pG_neg (c := p3 = 0) g4 ?_
      replace H := pRun (ls' := [.ref w, .int p1, .int p2, .int p3]) (st' := [.ref w, .int p2, .ref (w + 2)]) 1 rfl H
      replace H := pGetR (r := w + 2) (pRw hS hw (by decide +kernel)) rfl H
      replace H := pRun (ls' := [.ref w, .int p1, .int p2, .int p3]) (st' := [.int p2, .ref (w + 2), .int p2, .ref (w + 2)]) 1 rfl H
      obtain ⟨g5, H⟩ := pIld (n := 24) (pLt (pRl (n := 24) hw (by decide +kernel))) (pLn hS (pRl (n := 24) hw (by decide +kernel))) H
      refine pG_gd g5 ?_
      replace H := pRun (ls' := [.ref w, .int p1, .int p2, .int p3]) (st' := [.int ((M1 (w + 2) (ix p2)) ||| ((kI 1) <<< (p1 &&& 31))), .int p2, .ref (w + 2)]) 4 rfl H
      obtain ⟨g0, _, H⟩ := pGo (n1 := 6) rfl (mcb_224 rfl) H
      obtain ⟨g6, M2, eM2, H⟩ := pIst (n := 24) (pLn hS (pRl (n := 24) hw (by decide +kernel))) H
      refine pG_gd g6 (pG_put (M2 := M2) eM2 ?_)
      exact pG_ret (pRetU H)
  · refine pG_neg (c := p3 = 0) g1 ?_
    replace H := pRun (ls' := [.ref w, .int p1, .int p2, .int p3]) (st' := [.ref w, .int p1, .ref (w + 2)]) 1 rfl H
    replace H := pGetR (r := w + 2) (pRw hS hw (by decide +kernel)) rfl H
    replace H := pRun (ls' := [.ref w, .int p1, .int p2, .int p3]) (st' := [.int p1, .ref (w + 2), .int p1, .ref (w + 2)]) 1 rfl H
    obtain ⟨g2, H⟩ := pIld (n := 24) (pLt (pRl (n := 24) hw (by decide +kernel))) (pLn hS (pRl (n := 24) hw (by decide +kernel))) H
    refine pG_gd g2 ?_
    replace H := pRun (ls' := [.ref w, .int p1, .int p2, .int p3]) (st' := [.int ((M (w + 2) (ix p1)) ||| ((kI 1) <<< (p2 &&& 31))), .int p1, .ref (w + 2)]) 4 rfl H
    obtain ⟨g0, _, H⟩ := pGo (n1 := 3) rfl (mcb_224 rfl) H
    obtain ⟨g3, M1, eM1, H⟩ := pIst (n := 24) (pLn hS (pRl (n := 24) hw (by decide +kernel))) H
    refine pG_gd g3 (pG_put (M2 := M1) eM1 ?_)
    replace H := pRun (ls' := [.ref w, .int p1, .int p2, .int p3]) (st' := [.ref w]) 1 rfl H
    replace H := pGetR (r := w + 2) (pRw hS hw (by decide +kernel)) rfl H
    replace H := pRun (ls' := [.ref w, .int p1, .int p2, .int p3]) (st' := [.int p3, .int p2, .ref (w + 2)]) 2 rfl H
    rcases pIf0 (n1 := 5) rfl (mcb_224 rfl) (mcb_224 rfl) H with ⟨g4, g0, _, H⟩ | ⟨g4, g0, _, H⟩
    · refine pG_pos (c := p3 = 0) g4 ?_
      replace H := pRun (ls' := [.ref w, .int p1, .int p2, .int p3]) (st' := [.ref w, .int p2, .ref (w + 2)]) 1 rfl H
      replace H := pGetR (r := w + 2) (pRw hS hw (by decide +kernel)) rfl H
      replace H := pRun (ls' := [.ref w, .int p1, .int p2, .int p3]) (st' := [.int p2, .ref (w + 2), .int p2, .ref (w + 2)]) 1 rfl H
      obtain ⟨g5, H⟩ := pIld (n := 24) (pLt (pRl (n := 24) hw (by decide +kernel))) (pLn hS (pRl (n := 24) hw (by decide +kernel))) H
      refine pG_gd g5 ?_
      replace H := pRun (ls' := [.ref w, .int p1, .int p2, .int p3]) (st' := [.int ((M1 (w + 2) (ix p2)) &&& (((kI 1) <<< (p1 &&& 31)) ^^^ (kI (-1)))), .int p2, .ref (w + 2)]) 6 rfl H
      obtain ⟨g0, _, H⟩ := pFall (mcb_224 rfl) H
      obtain ⟨g6, M2, eM2, H⟩ := pIst (n := 24) (pLn hS (pRl (n := 24) hw (by decide +kernel))) H
      refine pG_gd g6 (pG_put (M2 := M2) eM2 ?_)
      exact pG_ret (pRetU H)
    · refine pG_neg (c := p3 = 0) g4 ?_
      replace H := pRun (ls' := [.ref w, .int p1, .int p2, .int p3]) (st' := [.ref w, .int p2, .ref (w + 2)]) 1 rfl H
      replace H := pGetR (r := w + 2) (pRw hS hw (by decide +kernel)) rfl H
      replace H := pRun (ls' := [.ref w, .int p1, .int p2, .int p3]) (st' := [.int p2, .ref (w + 2), .int p2, .ref (w + 2)]) 1 rfl H
      obtain ⟨g5, H⟩ := pIld (n := 24) (pLt (pRl (n := 24) hw (by decide +kernel))) (pLn hS (pRl (n := 24) hw (by decide +kernel))) H
      refine pG_gd g5 ?_
      replace H := pRun (ls' := [.ref w, .int p1, .int p2, .int p3]) (st' := [.int ((M1 (w + 2) (ix p2)) ||| ((kI 1) <<< (p1 &&& 31))), .int p2, .ref (w + 2)]) 4 rfl H
      obtain ⟨g0, _, H⟩ := pGo (n1 := 6) rfl (mcb_224 rfl) H
      obtain ⟨g6, M2, eM2, H⟩ := pIst (n := 24) (pLn hS (pRl (n := 24) hw (by decide +kernel))) H
      refine pG_gd g6 (pG_put (M2 := M2) eM2 ?_)
      exact pG_ret (pRetU H)
def l_224 (w : Nat) : List (Nat × Nat) := [(w + 2, 999)]
theorem F_224 {w : Nat} {p1 : Int32} {p2 : Int32} {p3 : Int32} (hw : pK 10 w = true) {M : pMem} {v : Unit} {N : pMem} (h : D_224 w p1 p2 p3 M v N) : pFr (l_224 w) M N :=
  (show pTf (l_224 w) M (D_224 w p1 p2 p3 M) from (tf_if (tf_gd fun g2 => (tf_gd fun g3 => (tf_putA pFr_refl 0 rfl fun M1 f1 => (tf_if (tf_gd fun g5 => (tf_gd fun g6 => (tf_putA f1 0 rfl fun M2 f2 => (tf_ret f2)))) (tf_gd fun g5 => (tf_gd fun g6 => (tf_putA f1 0 rfl fun M2 f2 => (tf_ret f2)))))))) (tf_gd fun g2 => (tf_gd fun g3 => (tf_putA pFr_refl 0 rfl fun M1 f1 => (tf_if (tf_gd fun g5 => (tf_gd fun g6 => (tf_putA f1 0 rfl fun M2 f2 => (tf_ret f2)))) (tf_gd fun g5 => (tf_gd fun g6 => (tf_putA f1 0 rfl fun M2 f2 => (tf_ret f2)))))))))) v N h
/-- java/util/Arrays.fill([II)V -/
def S_240_132_1 (p1 : Int32) (P1 : Int32 → Int32 → pMem → pT Unit) (x2 : Int32) (x3 : Int32) (M : pMem) : pT Unit := tIf (x3 ≤ x2) (tRet () M) (tGd (pIn x2 14) <| tPut (aPut M 132 (ix x2) p1) fun M1 => P1 (x2 + kI 1) x3 M1)
def C_240_132 (p1 : Int32) (P1 : Int32 → Int32 → pMem → pT Unit) : Prop := (∀ (x2 : Int32) (x3 : Int32) M v N, S_240_132_1 p1 P1 x2 x3 M v N → P1 x2 x3 M v N)
def L_240_132_1 (p1 : Int32) (x2 : Int32) (x3 : Int32) (M : pMem) : pT Unit := fun v N => ∀ P : (Int32 → Int32 → pMem → pT Unit), C_240_132 p1 P → P x2 x3 M v N
def D_240_132 (p1 : Int32) (M : pMem) : pT Unit := L_240_132_1 p1 (kI 0) (Int32.ofNat 14) M
theorem K_240_132 {X : aX} {F d : Nat} {K : Nat → aK} (hS : pS K) {p1 : Int32} {out : Option Value × aH} (P1 : Int32 → Int32 → pMem → pT Unit) (hC : C_240_132 p1 P1) : ∀ f, (∀ (x2 : Int32) (x3 : Int32) M, pm X F d 240 f 1 [.iload 2, .iload 3, .if_icmp .ge 3] [.ref 132, .int p1, .int x2, .int x3] [] (pH K M) out → pG eU K out (P1 x2 x3 M)) := by
  intro f
  induction f using Nat.strongRecOn with
  | _ f ih =>
    intro x2 x3 M H
    refine pG_mono (fun v N h => hC x2 x3 M v N h) ?_
    unfold S_240_132_1
    replace H := pRun (ls' := [.ref 132, .int p1, .int x2, .int x3]) (st' := [.int x3, .int x2]) 2 rfl H
    rcases pIfc (n1 := 3) rfl (mcb_240 rfl) (mcb_240 rfl) H with ⟨g1, g0, _, H⟩ | ⟨g1, g0, _, H⟩
    · refine pG_pos (c := x3 ≤ x2) g1 ?_
      exact pG_ret (pRetU H)
    · refine pG_neg (c := x3 ≤ x2) g1 ?_
      replace H := pRun (ls' := [.ref 132, .int p1, .int x2, .int x3]) (st' := [.int p1, .int x2, .ref 132]) 3 rfl H
      obtain ⟨g2, M1, eM1, H⟩ := pIst (n := 14) (pLn hS (show pCa 132 14 = true by decide +kernel)) H
      refine pG_gd g2 (pG_put (M2 := M1) eM1 ?_)
      replace H := pRun (ls' := [.ref 132, .int p1, .int (x2 + kI 1), .int x3]) (st' := []) 1 rfl H
      obtain ⟨g0, _, H⟩ := pGo (n1 := 1) rfl (mcb_240 rfl) H
      exact (ih _ (by omega)) _ _  _ H
theorem L_240_132_1_ok {X : aX} {F d : Nat} {K : Nat → aK} (hS : pS K) {p1 : Int32} {out : Option Value × aH} {f : Nat} {x2 : Int32} {x3 : Int32} {M : pMem} (H : pm X F d 240 f 1 [.iload 2, .iload 3, .if_icmp .ge 3] [.ref 132, .int p1, .int x2, .int x3] [] (pH K M) out) : pG eU K out (L_240_132_1 p1 x2 x3 M) := by
  refine pG_all (C := fun P : (Int32 → Int32 → pMem → pT Unit) => C_240_132 p1 P) (T := fun P => P x2 x3 M) eU_inj (fun _ _ _ _ _ => True) ?_ (fun P hP => (K_240_132 hS P hP f) _ _ _ H)
  exact (fun _ _ _ _ _ _ => trivial)
theorem D_240_132_ok {X : aX} {F d : Nat} {K : Nat → aK} (hS : pS K) {p1 : Int32} {M : pMem} {out : Option Value × aH} (H : aM X F d 240 [.ref 132, .int p1] (pH K M) = some out) : pG eU K out (D_240_132 p1 M) := by
  obtain ⟨d', g0, _, H⟩ := pEnt (n := 4) (ls := [.ref 132, .int p1, aD, aD]) (mcb_240 rfl) (by decide +kernel) rfl H
  unfold D_240_132
  replace H := pRun (ls' := [.ref 132, .int p1, .int (kI 0), aD]) (st' := [.ref 132]) 3 rfl H
  replace H := pAln (n := 14) (pLt (show pCa 132 14 = true by decide +kernel)) (pLn hS (show pCa 132 14 = true by decide +kernel)) H
  replace H := pRun (ls' := [.ref 132, .int p1, .int (kI 0), .int (Int32.ofNat 14)]) (st' := []) 1 rfl H
  obtain ⟨g0, _, H⟩ := pFall (mcb_240 rfl) H
  exact L_240_132_1_ok hS  H
def l_240_132 : List (Nat × Nat) := []
theorem FC_240_132 {p1 : Int32} : C_240_132 p1 (fun _ _ M _ N => pFr (l_240_132) M N) := fun x2 x3 M => show pTf (l_240_132) M (S_240_132_1 p1 _ x2 x3 M) from (tf_if (tf_ret pFr_refl) (tf_gd fun g2 => (tf_putS pFr_refl (fun _ => rfl) fun M1 f1 => (tf_jump f1))))
theorem F_240_132 {p1 : Int32} {M : pMem} {v : Unit} {N : pMem} (h : D_240_132 p1 M v N) : pFr (l_240_132) M N :=
  (show pTf (l_240_132) M (D_240_132 p1 M) from (tf_jumpL (fun _ _ M _ N => pFr (l_240_132) M N) (FC_240_132) rfl pFr_refl)) v N h
/-- java/util/Arrays.fill([II)V -/
def S_240_135_1 (p1 : Int32) (P1 : Int32 → Int32 → pMem → pT Unit) (x2 : Int32) (x3 : Int32) (M : pMem) : pT Unit := tIf (x3 ≤ x2) (tRet () M) (tGd (pIn x2 14) <| tPut (aPut M 135 (ix x2) p1) fun M1 => P1 (x2 + kI 1) x3 M1)
def C_240_135 (p1 : Int32) (P1 : Int32 → Int32 → pMem → pT Unit) : Prop := (∀ (x2 : Int32) (x3 : Int32) M v N, S_240_135_1 p1 P1 x2 x3 M v N → P1 x2 x3 M v N)
def L_240_135_1 (p1 : Int32) (x2 : Int32) (x3 : Int32) (M : pMem) : pT Unit := fun v N => ∀ P : (Int32 → Int32 → pMem → pT Unit), C_240_135 p1 P → P x2 x3 M v N
def D_240_135 (p1 : Int32) (M : pMem) : pT Unit := L_240_135_1 p1 (kI 0) (Int32.ofNat 14) M
theorem K_240_135 {X : aX} {F d : Nat} {K : Nat → aK} (hS : pS K) {p1 : Int32} {out : Option Value × aH} (P1 : Int32 → Int32 → pMem → pT Unit) (hC : C_240_135 p1 P1) : ∀ f, (∀ (x2 : Int32) (x3 : Int32) M, pm X F d 240 f 1 [.iload 2, .iload 3, .if_icmp .ge 3] [.ref 135, .int p1, .int x2, .int x3] [] (pH K M) out → pG eU K out (P1 x2 x3 M)) := by
  intro f
  induction f using Nat.strongRecOn with
  | _ f ih =>
    intro x2 x3 M H
    refine pG_mono (fun v N h => hC x2 x3 M v N h) ?_
    unfold S_240_135_1
    replace H := pRun (ls' := [.ref 135, .int p1, .int x2, .int x3]) (st' := [.int x3, .int x2]) 2 rfl H
    rcases pIfc (n1 := 3) rfl (mcb_240 rfl) (mcb_240 rfl) H with ⟨g1, g0, _, H⟩ | ⟨g1, g0, _, H⟩
    · refine pG_pos (c := x3 ≤ x2) g1 ?_
      exact pG_ret (pRetU H)
    · refine pG_neg (c := x3 ≤ x2) g1 ?_
      replace H := pRun (ls' := [.ref 135, .int p1, .int x2, .int x3]) (st' := [.int p1, .int x2, .ref 135]) 3 rfl H
      obtain ⟨g2, M1, eM1, H⟩ := pIst (n := 14) (pLn hS (show pCa 135 14 = true by decide +kernel)) H
      refine pG_gd g2 (pG_put (M2 := M1) eM1 ?_)
      replace H := pRun (ls' := [.ref 135, .int p1, .int (x2 + kI 1), .int x3]) (st' := []) 1 rfl H
      obtain ⟨g0, _, H⟩ := pGo (n1 := 1) rfl (mcb_240 rfl) H
      exact (ih _ (by omega)) _ _  _ H
theorem L_240_135_1_ok {X : aX} {F d : Nat} {K : Nat → aK} (hS : pS K) {p1 : Int32} {out : Option Value × aH} {f : Nat} {x2 : Int32} {x3 : Int32} {M : pMem} (H : pm X F d 240 f 1 [.iload 2, .iload 3, .if_icmp .ge 3] [.ref 135, .int p1, .int x2, .int x3] [] (pH K M) out) : pG eU K out (L_240_135_1 p1 x2 x3 M) := by
  refine pG_all (C := fun P : (Int32 → Int32 → pMem → pT Unit) => C_240_135 p1 P) (T := fun P => P x2 x3 M) eU_inj (fun _ _ _ _ _ => True) ?_ (fun P hP => (K_240_135 hS P hP f) _ _ _ H)
  exact (fun _ _ _ _ _ _ => trivial)
theorem D_240_135_ok {X : aX} {F d : Nat} {K : Nat → aK} (hS : pS K) {p1 : Int32} {M : pMem} {out : Option Value × aH} (H : aM X F d 240 [.ref 135, .int p1] (pH K M) = some out) : pG eU K out (D_240_135 p1 M) := by
  obtain ⟨d', g0, _, H⟩ := pEnt (n := 4) (ls := [.ref 135, .int p1, aD, aD]) (mcb_240 rfl) (by decide +kernel) rfl H
  unfold D_240_135
  replace H := pRun (ls' := [.ref 135, .int p1, .int (kI 0), aD]) (st' := [.ref 135]) 3 rfl H
  replace H := pAln (n := 14) (pLt (show pCa 135 14 = true by decide +kernel)) (pLn hS (show pCa 135 14 = true by decide +kernel)) H
  replace H := pRun (ls' := [.ref 135, .int p1, .int (kI 0), .int (Int32.ofNat 14)]) (st' := []) 1 rfl H
  obtain ⟨g0, _, H⟩ := pFall (mcb_240 rfl) H
  exact L_240_135_1_ok hS  H
def l_240_135 : List (Nat × Nat) := []
theorem FC_240_135 {p1 : Int32} : C_240_135 p1 (fun _ _ M _ N => pFr (l_240_135) M N) := fun x2 x3 M => show pTf (l_240_135) M (S_240_135_1 p1 _ x2 x3 M) from (tf_if (tf_ret pFr_refl) (tf_gd fun g2 => (tf_putS pFr_refl (fun _ => rfl) fun M1 f1 => (tf_jump f1))))
theorem F_240_135 {p1 : Int32} {M : pMem} {v : Unit} {N : pMem} (h : D_240_135 p1 M v N) : pFr (l_240_135) M N :=
  (show pTf (l_240_135) M (D_240_135 p1 M) from (tf_jumpL (fun _ _ M _ N => pFr (l_240_135) M N) (FC_240_135) rfl pFr_refl)) v N h
/-- java/util/Arrays.fill([II)V -/
def S_240_136_1 (p1 : Int32) (P1 : Int32 → Int32 → pMem → pT Unit) (x2 : Int32) (x3 : Int32) (M : pMem) : pT Unit := tIf (x3 ≤ x2) (tRet () M) (tGd (pIn x2 3) <| tPut (aPut M 136 (ix x2) p1) fun M1 => P1 (x2 + kI 1) x3 M1)
def C_240_136 (p1 : Int32) (P1 : Int32 → Int32 → pMem → pT Unit) : Prop := (∀ (x2 : Int32) (x3 : Int32) M v N, S_240_136_1 p1 P1 x2 x3 M v N → P1 x2 x3 M v N)
def L_240_136_1 (p1 : Int32) (x2 : Int32) (x3 : Int32) (M : pMem) : pT Unit := fun v N => ∀ P : (Int32 → Int32 → pMem → pT Unit), C_240_136 p1 P → P x2 x3 M v N
def D_240_136 (p1 : Int32) (M : pMem) : pT Unit := L_240_136_1 p1 (kI 0) (Int32.ofNat 3) M
theorem K_240_136 {X : aX} {F d : Nat} {K : Nat → aK} (hS : pS K) {p1 : Int32} {out : Option Value × aH} (P1 : Int32 → Int32 → pMem → pT Unit) (hC : C_240_136 p1 P1) : ∀ f, (∀ (x2 : Int32) (x3 : Int32) M, pm X F d 240 f 1 [.iload 2, .iload 3, .if_icmp .ge 3] [.ref 136, .int p1, .int x2, .int x3] [] (pH K M) out → pG eU K out (P1 x2 x3 M)) := by
  intro f
  induction f using Nat.strongRecOn with
  | _ f ih =>
    intro x2 x3 M H
    refine pG_mono (fun v N h => hC x2 x3 M v N h) ?_
    unfold S_240_136_1
    replace H := pRun (ls' := [.ref 136, .int p1, .int x2, .int x3]) (st' := [.int x3, .int x2]) 2 rfl H
    rcases pIfc (n1 := 3) rfl (mcb_240 rfl) (mcb_240 rfl) H with ⟨g1, g0, _, H⟩ | ⟨g1, g0, _, H⟩
    · refine pG_pos (c := x3 ≤ x2) g1 ?_
      exact pG_ret (pRetU H)
    · refine pG_neg (c := x3 ≤ x2) g1 ?_
      replace H := pRun (ls' := [.ref 136, .int p1, .int x2, .int x3]) (st' := [.int p1, .int x2, .ref 136]) 3 rfl H
      obtain ⟨g2, M1, eM1, H⟩ := pIst (n := 3) (pLn hS (show pCa 136 3 = true by decide +kernel)) H
      refine pG_gd g2 (pG_put (M2 := M1) eM1 ?_)
      replace H := pRun (ls' := [.ref 136, .int p1, .int (x2 + kI 1), .int x3]) (st' := []) 1 rfl H
      obtain ⟨g0, _, H⟩ := pGo (n1 := 1) rfl (mcb_240 rfl) H
      exact (ih _ (by omega)) _ _  _ H
theorem L_240_136_1_ok {X : aX} {F d : Nat} {K : Nat → aK} (hS : pS K) {p1 : Int32} {out : Option Value × aH} {f : Nat} {x2 : Int32} {x3 : Int32} {M : pMem} (H : pm X F d 240 f 1 [.iload 2, .iload 3, .if_icmp .ge 3] [.ref 136, .int p1, .int x2, .int x3] [] (pH K M) out) : pG eU K out (L_240_136_1 p1 x2 x3 M) := by
  refine pG_all (C := fun P : (Int32 → Int32 → pMem → pT Unit) => C_240_136 p1 P) (T := fun P => P x2 x3 M) eU_inj (fun _ _ _ _ _ => True) ?_ (fun P hP => (K_240_136 hS P hP f) _ _ _ H)
  exact (fun _ _ _ _ _ _ => trivial)
theorem D_240_136_ok {X : aX} {F d : Nat} {K : Nat → aK} (hS : pS K) {p1 : Int32} {M : pMem} {out : Option Value × aH} (H : aM X F d 240 [.ref 136, .int p1] (pH K M) = some out) : pG eU K out (D_240_136 p1 M) := by
  obtain ⟨d', g0, _, H⟩ := pEnt (n := 4) (ls := [.ref 136, .int p1, aD, aD]) (mcb_240 rfl) (by decide +kernel) rfl H
  unfold D_240_136
  replace H := pRun (ls' := [.ref 136, .int p1, .int (kI 0), aD]) (st' := [.ref 136]) 3 rfl H
  replace H := pAln (n := 3) (pLt (show pCa 136 3 = true by decide +kernel)) (pLn hS (show pCa 136 3 = true by decide +kernel)) H
  replace H := pRun (ls' := [.ref 136, .int p1, .int (kI 0), .int (Int32.ofNat 3)]) (st' := []) 1 rfl H
  obtain ⟨g0, _, H⟩ := pFall (mcb_240 rfl) H
  exact L_240_136_1_ok hS  H
def l_240_136 : List (Nat × Nat) := []
theorem FC_240_136 {p1 : Int32} : C_240_136 p1 (fun _ _ M _ N => pFr (l_240_136) M N) := fun x2 x3 M => show pTf (l_240_136) M (S_240_136_1 p1 _ x2 x3 M) from (tf_if (tf_ret pFr_refl) (tf_gd fun g2 => (tf_putS pFr_refl (fun _ => rfl) fun M1 f1 => (tf_jump f1))))
theorem F_240_136 {p1 : Int32} {M : pMem} {v : Unit} {N : pMem} (h : D_240_136 p1 M v N) : pFr (l_240_136) M N :=
  (show pTf (l_240_136) M (D_240_136 p1 M) from (tf_jumpL (fun _ _ M _ N => pFr (l_240_136) M N) (FC_240_136) rfl pFr_refl)) v N h
/-- java/util/Arrays.fill([II)V -/
def S_240_r_1 (row : Nat) (p1 : Int32) (P1 : Int32 → Int32 → pMem → pT Unit) (x2 : Int32) (x3 : Int32) (M : pMem) : pT Unit := tIf (x3 ≤ x2) (tRet () M) (tGd (pIn x2 1189) <| tPut (aPut M row (ix x2) p1) fun M1 => P1 (x2 + kI 1) x3 M1)
def C_240_r (row : Nat) (p1 : Int32) (P1 : Int32 → Int32 → pMem → pT Unit) : Prop := (∀ (x2 : Int32) (x3 : Int32) M v N, S_240_r_1 row p1 P1 x2 x3 M v N → P1 x2 x3 M v N)
def L_240_r_1 (row : Nat) (p1 : Int32) (x2 : Int32) (x3 : Int32) (M : pMem) : pT Unit := fun v N => ∀ P : (Int32 → Int32 → pMem → pT Unit), C_240_r row p1 P → P x2 x3 M v N
def D_240_r (row : Nat) (p1 : Int32) (M : pMem) : pT Unit := L_240_r_1 row p1 (kI 0) (Int32.ofNat 1189) M
theorem K_240_r {X : aX} {F d : Nat} {K : Nat → aK} (hS : pS K) {row : Nat} {p1 : Int32} (hrow : pCa row 1189 = true) {out : Option Value × aH} (P1 : Int32 → Int32 → pMem → pT Unit) (hC : C_240_r row p1 P1) : ∀ f, (∀ (x2 : Int32) (x3 : Int32) M, pm X F d 240 f 1 [.iload 2, .iload 3, .if_icmp .ge 3] [.ref row, .int p1, .int x2, .int x3] [] (pH K M) out → pG eU K out (P1 x2 x3 M)) := by
  intro f
  induction f using Nat.strongRecOn with
  | _ f ih =>
    intro x2 x3 M H
    refine pG_mono (fun v N h => hC x2 x3 M v N h) ?_
    unfold S_240_r_1
    replace H := pRun (ls' := [.ref row, .int p1, .int x2, .int x3]) (st' := [.int x3, .int x2]) 2 rfl H
    rcases pIfc (n1 := 3) rfl (mcb_240 rfl) (mcb_240 rfl) H with ⟨g1, g0, _, H⟩ | ⟨g1, g0, _, H⟩
    · refine pG_pos (c := x3 ≤ x2) g1 ?_
      exact pG_ret (pRetU H)
    · refine pG_neg (c := x3 ≤ x2) g1 ?_
      replace H := pRun (ls' := [.ref row, .int p1, .int x2, .int x3]) (st' := [.int p1, .int x2, .ref row]) 3 rfl H
      obtain ⟨g2, M1, eM1, H⟩ := pIst (n := 1189) (pLn hS hrow) H
      refine pG_gd g2 (pG_put (M2 := M1) eM1 ?_)
      replace H := pRun (ls' := [.ref row, .int p1, .int (x2 + kI 1), .int x3]) (st' := []) 1 rfl H
      obtain ⟨g0, _, H⟩ := pGo (n1 := 1) rfl (mcb_240 rfl) H
      exact (ih _ (by omega)) _ _  _ H
theorem L_240_r_1_ok {X : aX} {F d : Nat} {K : Nat → aK} (hS : pS K) {row : Nat} {p1 : Int32} (hrow : pCa row 1189 = true) {out : Option Value × aH} {f : Nat} {x2 : Int32} {x3 : Int32} {M : pMem} (H : pm X F d 240 f 1 [.iload 2, .iload 3, .if_icmp .ge 3] [.ref row, .int p1, .int x2, .int x3] [] (pH K M) out) : pG eU K out (L_240_r_1 row p1 x2 x3 M) := by
  refine pG_all (C := fun P : (Int32 → Int32 → pMem → pT Unit) => C_240_r row p1 P) (T := fun P => P x2 x3 M) eU_inj (fun _ _ _ _ _ => True) ?_ (fun P hP => (K_240_r hS hrow P hP f) _ _ _ H)
  exact (fun _ _ _ _ _ _ => trivial)
theorem D_240_r_ok {X : aX} {F d : Nat} {K : Nat → aK} (hS : pS K) {row : Nat} {p1 : Int32} (hrow : pCa row 1189 = true) {M : pMem} {out : Option Value × aH} (H : aM X F d 240 [.ref row, .int p1] (pH K M) = some out) : pG eU K out (D_240_r row p1 M) := by
  obtain ⟨d', g0, _, H⟩ := pEnt (n := 4) (ls := [.ref row, .int p1, aD, aD]) (mcb_240 rfl) (by decide +kernel) rfl H
  unfold D_240_r
  replace H := pRun (ls' := [.ref row, .int p1, .int (kI 0), aD]) (st' := [.ref row]) 3 rfl H
  replace H := pAln (n := 1189) (pLt hrow) (pLn hS hrow) H
  replace H := pRun (ls' := [.ref row, .int p1, .int (kI 0), .int (Int32.ofNat 1189)]) (st' := []) 1 rfl H
  obtain ⟨g0, _, H⟩ := pFall (mcb_240 rfl) H
  exact L_240_r_1_ok hS hrow  H
def l_240_r (row : Nat) : List (Nat × Nat) := []
theorem FC_240_r {row : Nat} {p1 : Int32} (hrow : pCa row 1189 = true) : C_240_r row p1 (fun _ _ M _ N => pFr (l_240_r row) M N) := fun x2 x3 M => show pTf (l_240_r row) M (S_240_r_1 row p1 _ x2 x3 M) from (tf_if (tf_ret pFr_refl) (tf_gd fun g2 => (tf_putS pFr_refl (pScrR hrow) fun M1 f1 => (tf_jump f1))))
theorem F_240_r {row : Nat} {p1 : Int32} (hrow : pCa row 1189 = true) {M : pMem} {v : Unit} {N : pMem} (h : D_240_r row p1 M v N) : pFr (l_240_r row) M N :=
  (show pTf (l_240_r row) M (D_240_r row p1 M) from (tf_jumpL (fun _ _ M _ N => pFr (l_240_r row) M N) (FC_240_r hrow) rfl pFr_refl)) v N h
/-- TwoCamps$Law.copyFrom(LTwoCamps$Law;)V -/
def D_153 (l : Nat) (l2 : Nat) (M : pMem) : pT Unit := tPut (aPut M l 0 (M l2 0)) fun M1 => tPut (aPut M1 l 1 (M1 l2 1)) fun M2 => tPut (aRow M2 (l + 1) (va_cpy (M2 (l2 + 1)) (M2 (l + 1)) (ix (kI 0)) (ix (kI 0)) (ix (kI 16)))) fun M3 => tPut (aRow M3 (l + 2) (va_cpy (M3 (l2 + 2)) (M3 (l + 2)) (ix (kI 0)) (ix (kI 0)) (ix (kI 16)))) fun M4 => tPut (aRow M4 (l + 3) (va_cpy (M4 (l2 + 3)) (M4 (l + 3)) (ix (kI 0)) (ix (kI 0)) (ix (kI 16)))) fun M5 => tPut (aRow M5 (l + 4) (va_cpy (M5 (l2 + 4)) (M5 (l + 4)) (ix (kI 0)) (ix (kI 0)) (ix (kI 16)))) fun M6 => tPut (aRow M6 (l + 5) (va_cpy (M6 (l2 + 5)) (M6 (l + 5)) (ix (kI 0)) (ix (kI 0)) (ix (kI 500)))) fun M7 => tRet () M7
theorem D_153_ok {X : aX} {F d : Nat} {K : Nat → aK} (hS : pS K) {l : Nat} {l2 : Nat} (hl : pK 2 l = true) (hl2 : pK 2 l2 = true) {M : pMem} {out : Option Value × aH} (H : aM X F d 153 [.ref l, .ref l2] (pH K M) = some out) : pG eU K out (D_153 l l2 M) := by
  obtain ⟨d', g0, _, H⟩ := pEnt (n := 2) (ls := [.ref l, .ref l2]) (mcb_153 rfl) (by decide +kernel) rfl H
  unfold D_153
  replace H := pRun (ls' := [.ref l, .ref l2]) (st' := [.ref l2, .ref l]) 2 rfl H
  replace H := pGetN (v := M l2 0) rfl (by decide) H
  obtain ⟨M1, eM1, H⟩ := pPutN (j := 0) rfl H
  refine pG_put (M2 := M1) eM1 ?_
  replace H := pRun (ls' := [.ref l, .ref l2]) (st' := [.ref l2, .ref l]) 2 rfl H
  replace H := pGetN (v := M1 l2 1) rfl (by decide) H
  obtain ⟨M2, eM2, H⟩ := pPutN (j := 1) rfl H
  refine pG_put (M2 := M2) eM2 ?_
  replace H := pRun (ls' := [.ref l, .ref l2]) (st' := [.ref l2]) 1 rfl H
  replace H := pGetR (r := l2 + 1) (pRw hS hl2 (by decide +kernel)) rfl H
  replace H := pRun (ls' := [.ref l, .ref l2]) (st' := [.ref l, .int (kI 0), .ref (l2 + 1)]) 2 rfl H
  replace H := pGetR (r := l + 1) (pRw hS hl (by decide +kernel)) rfl H
  replace H := pRun (ls' := [.ref l, .ref l2]) (st' := [.int (kI 16), .int (kI 0), .ref (l + 1), .int (kI 0), .ref (l2 + 1)]) 2 rfl H
  obtain ⟨M3, eM3, H⟩ := pCpy rfl H
  refine pG_put (M2 := M3) eM3 ?_
  replace H := pRun (ls' := [.ref l, .ref l2]) (st' := [.ref l2]) 1 rfl H
  replace H := pGetR (r := l2 + 2) (pRw hS hl2 (by decide +kernel)) rfl H
  replace H := pRun (ls' := [.ref l, .ref l2]) (st' := [.ref l, .int (kI 0), .ref (l2 + 2)]) 2 rfl H
  replace H := pGetR (r := l + 2) (pRw hS hl (by decide +kernel)) rfl H
  replace H := pRun (ls' := [.ref l, .ref l2]) (st' := [.int (kI 16), .int (kI 0), .ref (l + 2), .int (kI 0), .ref (l2 + 2)]) 2 rfl H
  obtain ⟨M4, eM4, H⟩ := pCpy rfl H
  refine pG_put (M2 := M4) eM4 ?_
  replace H := pRun (ls' := [.ref l, .ref l2]) (st' := [.ref l2]) 1 rfl H
  replace H := pGetR (r := l2 + 3) (pRw hS hl2 (by decide +kernel)) rfl H
  replace H := pRun (ls' := [.ref l, .ref l2]) (st' := [.ref l, .int (kI 0), .ref (l2 + 3)]) 2 rfl H
  replace H := pGetR (r := l + 3) (pRw hS hl (by decide +kernel)) rfl H
  replace H := pRun (ls' := [.ref l, .ref l2]) (st' := [.int (kI 16), .int (kI 0), .ref (l + 3), .int (kI 0), .ref (l2 + 3)]) 2 rfl H
  obtain ⟨M5, eM5, H⟩ := pCpy rfl H
  refine pG_put (M2 := M5) eM5 ?_
  replace H := pRun (ls' := [.ref l, .ref l2]) (st' := [.ref l2]) 1 rfl H
  replace H := pGetR (r := l2 + 4) (pRw hS hl2 (by decide +kernel)) rfl H
  replace H := pRun (ls' := [.ref l, .ref l2]) (st' := [.ref l, .int (kI 0), .ref (l2 + 4)]) 2 rfl H
  replace H := pGetR (r := l + 4) (pRw hS hl (by decide +kernel)) rfl H
  replace H := pRun (ls' := [.ref l, .ref l2]) (st' := [.int (kI 16), .int (kI 0), .ref (l + 4), .int (kI 0), .ref (l2 + 4)]) 2 rfl H
  obtain ⟨M6, eM6, H⟩ := pCpy rfl H
  refine pG_put (M2 := M6) eM6 ?_
  replace H := pRun (ls' := [.ref l, .ref l2]) (st' := [.ref l2]) 1 rfl H
  replace H := pGetR (r := l2 + 5) (pRw hS hl2 (by decide +kernel)) rfl H
  replace H := pRun (ls' := [.ref l, .ref l2]) (st' := [.ref l, .int (kI 0), .ref (l2 + 5)]) 2 rfl H
  replace H := pGetR (r := l + 5) (pRw hS hl (by decide +kernel)) rfl H
  replace H := pRun (ls' := [.ref l, .ref l2]) (st' := [.int (kI 500), .int (kI 0), .ref (l + 5), .int (kI 0), .ref (l2 + 5)]) 2 rfl H
  obtain ⟨M7, eM7, H⟩ := pCpy rfl H
  refine pG_put (M2 := M7) eM7 ?_
  exact pG_ret (pRetU H)
def l_153 (l : Nat) (l2 : Nat) : List (Nat × Nat) := [(l, 0), (l, 1), (l + 1, 999), (l + 2, 999), (l + 3, 999), (l + 4, 999), (l + 5, 999)]
theorem F_153 {l : Nat} {l2 : Nat} (hl : pK 2 l = true) (hl2 : pK 2 l2 = true) {M : pMem} {v : Unit} {N : pMem} (h : D_153 l l2 M v N) : pFr (l_153 l l2) M N :=
  (show pTf (l_153 l l2) M (D_153 l l2 M) from (tf_put pFr_refl 0 rfl fun M1 f1 => (tf_put f1 1 rfl fun M2 f2 => (tf_row f2 2 rfl fun M3 f3 => (tf_row f3 3 rfl fun M4 f4 => (tf_row f4 4 rfl fun M5 f5 => (tf_row f5 5 rfl fun M6 f6 => (tf_row f6 6 rfl fun M7 f7 => (tf_ret f7))))))))) v N h
/-- TwoCamps$Law.clear()V -/
def D_154 (l : Nat) (M : pMem) : pT Unit := tPut (aPut M l 0 (kI 0)) fun M1 => tPut (aPut M1 l 1 (kI 0)) fun M2 => tRet () M2
theorem D_154_ok {X : aX} {F d : Nat} {K : Nat → aK} (hS : pS K) {l : Nat} (hl : pK 2 l = true) {M : pMem} {out : Option Value × aH} (H : aM X F d 154 [.ref l] (pH K M) = some out) : pG eU K out (D_154 l M) := by
  obtain ⟨d', g0, _, H⟩ := pEnt (n := 1) (ls := [.ref l]) (mcb_154 rfl) (by decide +kernel) rfl H
  unfold D_154
  replace H := pRun (ls' := [.ref l]) (st' := [.int (kI 0), .ref l]) 2 rfl H
  obtain ⟨M1, eM1, H⟩ := pPutN (j := 0) rfl H
  refine pG_put (M2 := M1) eM1 ?_
  replace H := pRun (ls' := [.ref l]) (st' := [.int (kI 0), .ref l]) 2 rfl H
  obtain ⟨M2, eM2, H⟩ := pPutN (j := 1) rfl H
  refine pG_put (M2 := M2) eM2 ?_
  exact pG_ret (pRetU H)
def l_154 (l : Nat) : List (Nat × Nat) := [(l, 0), (l, 1)]
theorem F_154 {l : Nat} (hl : pK 2 l = true) {M : pMem} {v : Unit} {N : pMem} (h : D_154 l M v N) : pFr (l_154 l) M N :=
  (show pTf (l_154 l) M (D_154 l M) from (tf_put pFr_refl 0 rfl fun M1 f1 => (tf_put f1 1 rfl fun M2 f2 => (tf_ret f2)))) v N h
/-- TwoCamps$Law.putStep(I)V -/
def D_155 (l : Nat) (p1 : Int32) (M : pMem) : pT Unit := tIf ((M l 1) < 0) (tRet () M) (tIf ((kI 500) ≤ (M l 1)) (tRet () M) (tGd (pIn (M l 1) 500) <| tPut (aPut M (l + 5) (ix (M l 1)) p1) fun M1 => tPut (aPut M1 l 1 ((M1 l 1) + (kI 1))) fun M2 => tRet () M2))
theorem D_155_ok {X : aX} {F d : Nat} {K : Nat → aK} (hS : pS K) {l : Nat} {p1 : Int32} (hl : pK 2 l = true) {M : pMem} {out : Option Value × aH} (H : aM X F d 155 [.ref l, .int p1] (pH K M) = some out) : pG eU K out (D_155 l p1 M) := by
  obtain ⟨d', g0, _, H⟩ := pEnt (n := 2) (ls := [.ref l, .int p1]) (mcb_155 rfl) (by decide +kernel) rfl H
  unfold D_155
  replace H := pRun (ls' := [.ref l, .int p1]) (st' := [.ref l]) 1 rfl H
  replace H := pGetN (v := M l 1) rfl (by decide) H
  rcases pIf0 (n1 := 3) rfl (mcb_155 rfl) (mcb_155 rfl) H with ⟨g1, g0, _, H⟩ | ⟨g1, g0, _, H⟩
  · refine pG_pos (c := (M l 1) < 0) g1 ?_
    exact pG_ret (pRetU H)
  · refine pG_neg (c := (M l 1) < 0) g1 ?_
    replace H := pRun (ls' := [.ref l, .int p1]) (st' := [.ref l]) 1 rfl H
    replace H := pGetN (v := M l 1) rfl (by decide) H
    replace H := pRun (ls' := [.ref l, .int p1]) (st' := [.int (kI 500), .int (M l 1)]) 1 rfl H
    rcases pIfc (n1 := 3) rfl (mcb_155 rfl) (mcb_155 rfl) H with ⟨g2, g0, _, H⟩ | ⟨g2, g0, _, H⟩
    · refine pG_pos (c := (kI 500) ≤ (M l 1)) g2 ?_
      exact pG_ret (pRetU H)
    · refine pG_neg (c := (kI 500) ≤ (M l 1)) g2 ?_
      replace H := pRun (ls' := [.ref l, .int p1]) (st' := [.ref l]) 1 rfl H
      replace H := pGetR (r := l + 5) (pRw hS hl (by decide +kernel)) rfl H
      replace H := pRun (ls' := [.ref l, .int p1]) (st' := [.ref l, .ref (l + 5)]) 1 rfl H
      replace H := pGetN (v := M l 1) rfl (by decide) H
      replace H := pRun (ls' := [.ref l, .int p1]) (st' := [.int p1, .int (M l 1), .ref (l + 5)]) 1 rfl H
      obtain ⟨g3, M1, eM1, H⟩ := pIst (n := 500) (pLn hS (pRl (n := 500) hl (by decide +kernel))) H
      refine pG_gd g3 (pG_put (M2 := M1) eM1 ?_)
      replace H := pRun (ls' := [.ref l, .int p1]) (st' := [.ref l, .ref l]) 2 rfl H
      replace H := pGetN (v := M1 l 1) rfl (by decide) H
      replace H := pRun (ls' := [.ref l, .int p1]) (st' := [.int ((M1 l 1) + (kI 1)), .ref l]) 2 rfl H
      obtain ⟨M2, eM2, H⟩ := pPutN (j := 1) rfl H
      refine pG_put (M2 := M2) eM2 ?_
      obtain ⟨g0, _, H⟩ := pFall (mcb_155 rfl) H
      exact pG_ret (pRetU H)
def l_155 (l : Nat) : List (Nat × Nat) := [(l + 5, 999), (l, 1)]
theorem F_155 {l : Nat} {p1 : Int32} (hl : pK 2 l = true) {M : pMem} {v : Unit} {N : pMem} (h : D_155 l p1 M v N) : pFr (l_155 l) M N :=
  (show pTf (l_155 l) M (D_155 l p1 M) from (tf_if (tf_ret pFr_refl) (tf_if (tf_ret pFr_refl) (tf_gd fun g3 => (tf_putA pFr_refl 0 rfl fun M1 f1 => (tf_put f1 1 rfl fun M2 f2 => (tf_ret f2))))))) v N h
/-- TwoCamps$Law.endLine(III)V -/
def D_156 (l : Nat) (p1 : Int32) (p2 : Int32) (p3 : Int32) (M : pMem) : pT Unit := tIf ((M l 0) < 0) (tRet () M) (tIf ((kI 16) ≤ (M l 0)) (tRet () M) (tGd (pIn (M l 0) 16) <| tPut (aPut M (l + 1) (ix (M l 0)) p1) fun M1 => tGd (pIn (M1 l 0) 16) <| tPut (aPut M1 (l + 2) (ix (M1 l 0)) p2) fun M2 => tGd (pIn (M2 l 0) 16) <| tPut (aPut M2 (l + 3) (ix (M2 l 0)) p3) fun M3 => tGd (pIn (M3 l 0) 16) <| tPut (aPut M3 (l + 4) (ix (M3 l 0)) (M3 l 1)) fun M4 => tPut (aPut M4 l 0 ((M4 l 0) + (kI 1))) fun M5 => tRet () M5))
theorem D_156_ok {X : aX} {F d : Nat} {K : Nat → aK} (hS : pS K) {l : Nat} {p1 : Int32} {p2 : Int32} {p3 : Int32} (hl : pK 2 l = true) {M : pMem} {out : Option Value × aH} (H : aM X F d 156 [.ref l, .int p1, .int p2, .int p3] (pH K M) = some out) : pG eU K out (D_156 l p1 p2 p3 M) := by
  obtain ⟨d', g0, _, H⟩ := pEnt (n := 4) (ls := [.ref l, .int p1, .int p2, .int p3]) (mcb_156 rfl) (by decide +kernel) rfl H
  unfold D_156
  replace H := pRun (ls' := [.ref l, .int p1, .int p2, .int p3]) (st' := [.ref l]) 1 rfl H
  replace H := pGetN (v := M l 0) rfl (by decide) H
  rcases pIf0 (n1 := 3) rfl (mcb_156 rfl) (mcb_156 rfl) H with ⟨g1, g0, _, H⟩ | ⟨g1, g0, _, H⟩
  · refine pG_pos (c := (M l 0) < 0) g1 ?_
    exact pG_ret (pRetU H)
  · refine pG_neg (c := (M l 0) < 0) g1 ?_
    replace H := pRun (ls' := [.ref l, .int p1, .int p2, .int p3]) (st' := [.ref l]) 1 rfl H
    replace H := pGetN (v := M l 0) rfl (by decide) H
    replace H := pRun (ls' := [.ref l, .int p1, .int p2, .int p3]) (st' := [.int (kI 16), .int (M l 0)]) 1 rfl H
    rcases pIfc (n1 := 3) rfl (mcb_156 rfl) (mcb_156 rfl) H with ⟨g2, g0, _, H⟩ | ⟨g2, g0, _, H⟩
    · refine pG_pos (c := (kI 16) ≤ (M l 0)) g2 ?_
      exact pG_ret (pRetU H)
    · refine pG_neg (c := (kI 16) ≤ (M l 0)) g2 ?_
      replace H := pRun (ls' := [.ref l, .int p1, .int p2, .int p3]) (st' := [.ref l]) 1 rfl H
      replace H := pGetR (r := l + 1) (pRw hS hl (by decide +kernel)) rfl H
      replace H := pRun (ls' := [.ref l, .int p1, .int p2, .int p3]) (st' := [.ref l, .ref (l + 1)]) 1 rfl H
      replace H := pGetN (v := M l 0) rfl (by decide) H
      replace H := pRun (ls' := [.ref l, .int p1, .int p2, .int p3]) (st' := [.int p1, .int (M l 0), .ref (l + 1)]) 1 rfl H
      obtain ⟨g3, M1, eM1, H⟩ := pIst (n := 16) (pLn hS (pRl (n := 16) hl (by decide +kernel))) H
      refine pG_gd g3 (pG_put (M2 := M1) eM1 ?_)
      replace H := pRun (ls' := [.ref l, .int p1, .int p2, .int p3]) (st' := [.ref l]) 1 rfl H
      replace H := pGetR (r := l + 2) (pRw hS hl (by decide +kernel)) rfl H
      replace H := pRun (ls' := [.ref l, .int p1, .int p2, .int p3]) (st' := [.ref l, .ref (l + 2)]) 1 rfl H
      replace H := pGetN (v := M1 l 0) rfl (by decide) H
      replace H := pRun (ls' := [.ref l, .int p1, .int p2, .int p3]) (st' := [.int p2, .int (M1 l 0), .ref (l + 2)]) 1 rfl H
      obtain ⟨g4, M2, eM2, H⟩ := pIst (n := 16) (pLn hS (pRl (n := 16) hl (by decide +kernel))) H
      refine pG_gd g4 (pG_put (M2 := M2) eM2 ?_)
      replace H := pRun (ls' := [.ref l, .int p1, .int p2, .int p3]) (st' := [.ref l]) 1 rfl H
      replace H := pGetR (r := l + 3) (pRw hS hl (by decide +kernel)) rfl H
      replace H := pRun (ls' := [.ref l, .int p1, .int p2, .int p3]) (st' := [.ref l, .ref (l + 3)]) 1 rfl H
      replace H := pGetN (v := M2 l 0) rfl (by decide) H
      replace H := pRun (ls' := [.ref l, .int p1, .int p2, .int p3]) (st' := [.int p3, .int (M2 l 0), .ref (l + 3)]) 1 rfl H
      obtain ⟨g5, M3, eM3, H⟩ := pIst (n := 16) (pLn hS (pRl (n := 16) hl (by decide +kernel))) H
      refine pG_gd g5 (pG_put (M2 := M3) eM3 ?_)
      replace H := pRun (ls' := [.ref l, .int p1, .int p2, .int p3]) (st' := [.ref l]) 1 rfl H
      replace H := pGetR (r := l + 4) (pRw hS hl (by decide +kernel)) rfl H
      replace H := pRun (ls' := [.ref l, .int p1, .int p2, .int p3]) (st' := [.ref l, .ref (l + 4)]) 1 rfl H
      replace H := pGetN (v := M3 l 0) rfl (by decide) H
      replace H := pRun (ls' := [.ref l, .int p1, .int p2, .int p3]) (st' := [.ref l, .int (M3 l 0), .ref (l + 4)]) 1 rfl H
      replace H := pGetN (v := M3 l 1) rfl (by decide) H
      obtain ⟨g6, M4, eM4, H⟩ := pIst (n := 16) (pLn hS (pRl (n := 16) hl (by decide +kernel))) H
      refine pG_gd g6 (pG_put (M2 := M4) eM4 ?_)
      replace H := pRun (ls' := [.ref l, .int p1, .int p2, .int p3]) (st' := [.ref l, .ref l]) 2 rfl H
      replace H := pGetN (v := M4 l 0) rfl (by decide) H
      replace H := pRun (ls' := [.ref l, .int p1, .int p2, .int p3]) (st' := [.int ((M4 l 0) + (kI 1)), .ref l]) 2 rfl H
      obtain ⟨M5, eM5, H⟩ := pPutN (j := 0) rfl H
      refine pG_put (M2 := M5) eM5 ?_
      obtain ⟨g0, _, H⟩ := pFall (mcb_156 rfl) H
      exact pG_ret (pRetU H)
def l_156 (l : Nat) : List (Nat × Nat) := [(l + 1, 999), (l + 2, 999), (l + 3, 999), (l + 4, 999), (l, 0)]
theorem F_156 {l : Nat} {p1 : Int32} {p2 : Int32} {p3 : Int32} (hl : pK 2 l = true) {M : pMem} {v : Unit} {N : pMem} (h : D_156 l p1 p2 p3 M v N) : pFr (l_156 l) M N :=
  (show pTf (l_156 l) M (D_156 l p1 p2 p3 M) from (tf_if (tf_ret pFr_refl) (tf_if (tf_ret pFr_refl) (tf_gd fun g3 => (tf_putA pFr_refl 0 rfl fun M1 f1 => (tf_gd fun g4 => (tf_putA f1 1 rfl fun M2 f2 => (tf_gd fun g5 => (tf_putA f2 2 rfl fun M3 f3 => (tf_gd fun g6 => (tf_putA f3 3 rfl fun M4 f4 => (tf_put f4 4 rfl fun M5 f5 => (tf_ret f5))))))))))))) v N h
/-- TwoCamps$Law.joined(III)I -/
def f_159 (p0 : Int32) (p1 : Int32) (p2 : Int32) : Int32 := if p0 = kI 21 then (p1 ||| p2) else if p0 = kI 22 then (p1 &&& p2) else if p0 = kI 42 then (p1 * p2) else if p0 = kI 43 then (p1 + p2) else if p0 = kI 45 then (p1 - p2) else if p0 = kI 47 then if ¬ p2 = 0 then (p1 / p2) else (kI 0) else if p0 = kI 60 then if p2 ≤ p1 then (kI 0) else (kI 1) else if p0 = kI 61 then if ¬ p1 = p2 then (kI 0) else (kI 1) else if p0 = kI 62 then if p1 ≤ p2 then (kI 0) else (kI 1) else (kI 0)
theorem f_159_ok {X : aX} {F d : Nat} {K : Nat → aK} (hS : pS K) {p0 : Int32} {p1 : Int32} {p2 : Int32} {M : pMem} {out : Option Value × aH} (H : aM X F d 159 [.int p0, .int p1, .int p2] (pH K M) = some out) : out = (some <| Value.int (f_159 p0 p1 p2), pH K M) := by
  obtain ⟨d', g0, _, H⟩ := pEnt (n := 3) (ls := [.int p0, .int p1, .int p2]) (mcb_159 rfl) (by decide +kernel) rfl H
  unfold f_159
  replace H := pRun (ls' := [.int p0, .int p1, .int p2]) (st' := [.int p0]) 1 rfl H
  by_cases g1 : p0 = kI 21
  · rw [if_pos g1]
    obtain ⟨g0, _, H⟩ := pLs (n1 := 21) (by rw [g1]; decide) (mcb_159 rfl) H
    replace H := pRun (ls' := [.int p0, .int p1, .int p2]) (st' := [.int (p1 ||| p2)]) 3 rfl H
    exact pRetI H
  rw [if_neg g1]
  by_cases g2 : p0 = kI 22
  · rw [if_pos g2]
    obtain ⟨g0, _, H⟩ := pLs (n1 := 20) (by rw [g2]; decide) (mcb_159 rfl) H
    replace H := pRun (ls' := [.int p0, .int p1, .int p2]) (st' := [.int (p1 &&& p2)]) 3 rfl H
    exact pRetI H
  rw [if_neg g2]
  by_cases g3 : p0 = kI 42
  · rw [if_pos g3]
    obtain ⟨g0, _, H⟩ := pLs (n1 := 3) (by rw [g3]; decide) (mcb_159 rfl) H
    replace H := pRun (ls' := [.int p0, .int p1, .int p2]) (st' := [.int (p1 * p2)]) 3 rfl H
    exact pRetI H
  rw [if_neg g3]
  by_cases g4 : p0 = kI 43
  · rw [if_pos g4]
    obtain ⟨g0, _, H⟩ := pLs (n1 := 1) (by rw [g4]; decide) (mcb_159 rfl) H
    replace H := pRun (ls' := [.int p0, .int p1, .int p2]) (st' := [.int (p1 + p2)]) 3 rfl H
    exact pRetI H
  rw [if_neg g4]
  by_cases g5 : p0 = kI 45
  · rw [if_pos g5]
    obtain ⟨g0, _, H⟩ := pLs (n1 := 2) (by rw [g5]; decide) (mcb_159 rfl) H
    replace H := pRun (ls' := [.int p0, .int p1, .int p2]) (st' := [.int (p1 - p2)]) 3 rfl H
    exact pRetI H
  rw [if_neg g5]
  by_cases g6 : p0 = kI 47
  · rw [if_pos g6]
    obtain ⟨g0, _, H⟩ := pLs (n1 := 4) (by rw [g6]; decide) (mcb_159 rfl) H
    replace H := pRun (ls' := [.int p0, .int p1, .int p2]) (st' := [.int p2]) 1 rfl H
    rcases pIf0 (n1 := 6) rfl (mcb_159 rfl) (mcb_159 rfl) H with ⟨g7, g0, _, H⟩ | ⟨g7, g0, _, H⟩
    · rw [if_pos (show ¬ p2 = 0 from g7)]
      replace H := pRun (ls' := [.int p0, .int p1, .int p2]) (st' := [.int p2, .int p1]) 2 rfl H
      obtain ⟨g8, H⟩ := pDiv H
      obtain ⟨g0, _, H⟩ := pFall (mcb_159 rfl) H
      exact pRetI H
    · rw [if_neg (show ¬ (¬ p2 = 0) from g7)]
      replace H := pRun (ls' := [.int p0, .int p1, .int p2]) (st' := [.int (kI 0)]) 1 rfl H
      obtain ⟨g0, _, H⟩ := pGo (n1 := 7) rfl (mcb_159 rfl) H
      exact pRetI H
  rw [if_neg g6]
  by_cases g7 : p0 = kI 60
  · rw [if_pos g7]
    obtain ⟨g0, _, H⟩ := pLs (n1 := 8) (by rw [g7]; decide) (mcb_159 rfl) H
    replace H := pRun (ls' := [.int p0, .int p1, .int p2]) (st' := [.int p2, .int p1]) 2 rfl H
    rcases pIfc (n1 := 10) rfl (mcb_159 rfl) (mcb_159 rfl) H with ⟨g8, g0, _, H⟩ | ⟨g8, g0, _, H⟩
    · rw [if_pos (show p2 ≤ p1 from g8)]
      replace H := pRun (ls' := [.int p0, .int p1, .int p2]) (st' := [.int (kI 0)]) 1 rfl H
      obtain ⟨g0, _, H⟩ := pFall (mcb_159 rfl) H
      exact pRetI H
    · rw [if_neg (show ¬ (p2 ≤ p1) from g8)]
      replace H := pRun (ls' := [.int p0, .int p1, .int p2]) (st' := [.int (kI 1)]) 1 rfl H
      obtain ⟨g0, _, H⟩ := pGo (n1 := 11) rfl (mcb_159 rfl) H
      exact pRetI H
  rw [if_neg g7]
  by_cases g8 : p0 = kI 61
  · rw [if_pos g8]
    obtain ⟨g0, _, H⟩ := pLs (n1 := 12) (by rw [g8]; decide) (mcb_159 rfl) H
    replace H := pRun (ls' := [.int p0, .int p1, .int p2]) (st' := [.int p2, .int p1]) 2 rfl H
    rcases pIfc (n1 := 14) rfl (mcb_159 rfl) (mcb_159 rfl) H with ⟨g9, g0, _, H⟩ | ⟨g9, g0, _, H⟩
    · rw [if_pos (show ¬ p1 = p2 from g9)]
      replace H := pRun (ls' := [.int p0, .int p1, .int p2]) (st' := [.int (kI 0)]) 1 rfl H
      obtain ⟨g0, _, H⟩ := pFall (mcb_159 rfl) H
      exact pRetI H
    · rw [if_neg (show ¬ (¬ p1 = p2) from g9)]
      replace H := pRun (ls' := [.int p0, .int p1, .int p2]) (st' := [.int (kI 1)]) 1 rfl H
      obtain ⟨g0, _, H⟩ := pGo (n1 := 15) rfl (mcb_159 rfl) H
      exact pRetI H
  rw [if_neg g8]
  by_cases g9 : p0 = kI 62
  · rw [if_pos g9]
    obtain ⟨g0, _, H⟩ := pLs (n1 := 16) (by rw [g9]; decide) (mcb_159 rfl) H
    replace H := pRun (ls' := [.int p0, .int p1, .int p2]) (st' := [.int p2, .int p1]) 2 rfl H
    rcases pIfc (n1 := 18) rfl (mcb_159 rfl) (mcb_159 rfl) H with ⟨g10, g0, _, H⟩ | ⟨g10, g0, _, H⟩
    · rw [if_pos (show p1 ≤ p2 from g10)]
      replace H := pRun (ls' := [.int p0, .int p1, .int p2]) (st' := [.int (kI 0)]) 1 rfl H
      obtain ⟨g0, _, H⟩ := pFall (mcb_159 rfl) H
      exact pRetI H
    · rw [if_neg (show ¬ (p1 ≤ p2) from g10)]
      replace H := pRun (ls' := [.int p0, .int p1, .int p2]) (st' := [.int (kI 1)]) 1 rfl H
      obtain ⟨g0, _, H⟩ := pGo (n1 := 19) rfl (mcb_159 rfl) H
      exact pRetI H
  rw [if_neg g9]
  obtain ⟨g0, _, H⟩ := pLs (n1 := 22) (pLsD rfl (by intro v hv; simp only [List.map_cons, List.map_nil, List.mem_cons, List.not_mem_nil, or_false] at hv; rcases hv with rfl | rfl | rfl | rfl | rfl | rfl | rfl | rfl | rfl <;> assumption)) (mcb_159 rfl) H
  replace H := pRun (ls' := [.int p0, .int p1, .int p2]) (st' := [.int (kI 0)]) 1 rfl H
  exact pRetI H
