/-! what runs come to, method by method: printed by wip/pm/pm.py -/
/-- TwoCamps.fitting(I)I -/
def S_24_3 (p1 : Int32) (P3 : Int32 → Int32 → Int32 → pMem → pT Int32) (x2 : Int32) (x3 : Int32) (x4 : Int32) (M : pMem) : pT Int32 := tIf ((kI 4) ≤ x4) (tRet x2 M) (tGd (pIn p1 4) <| tGd (pIn x4 4) <| tCall (D_208 (37 + 11 * ix p1) (30 + 11 * ix x4) (kI 1) M) fun _ M1 => tIf (x2 = (kI (-1))) (P3 x4 (M1 138 3) (x4 + kI 1) M1) (tIf (x3 ≤ (M1 138 3)) (P3 x2 x3 (x4 + kI 1) M1) (P3 x4 (M1 138 3) (x4 + kI 1) M1)))
def C_24 (p1 : Int32) (P3 : Int32 → Int32 → Int32 → pMem → pT Int32) : Prop := (∀ (x2 : Int32) (x3 : Int32) (x4 : Int32) M v N, S_24_3 p1 P3 x2 x3 x4 M v N → P3 x2 x3 x4 M v N)
def L_24_3 (p1 : Int32) (x2 : Int32) (x3 : Int32) (x4 : Int32) (M : pMem) : pT Int32 := fun v N => ∀ P : (Int32 → Int32 → Int32 → pMem → pT Int32), C_24 p1 P → P x2 x3 x4 M v N
def D_24 (p1 : Int32) (M : pMem) : pT Int32 := tIf (¬ (f_33 p1) = 0) (L_24_3 p1 (kI (-1)) (kI 0) (kI 0) M) (tRet (kI (-1)) M)
theorem K_24 {X : aX} {F d : Nat} {K : Nat → aK} (hS : pS K) {p1 : Int32} {out : Option Value × aH} (P3 : Int32 → Int32 → Int32 → pMem → pT Int32) (hC : C_24 p1 P3) : ∀ f, (∀ (x2 : Int32) (x3 : Int32) (x4 : Int32) M, pm X F d 24 f 3 [.iload 4, .bipush 4, .if_icmp .ge 8] [.ref 0, .int p1, .int x2, .int x3, .int x4] [] (pH K M) out → pG eI K out (P3 x2 x3 x4 M)) := by
  intro f
  induction f using Nat.strongRecOn with
  | _ f ih =>
    intro x2 x3 x4 M H
    refine pG_mono (fun v N h => hC x2 x3 x4 M v N h) ?_
    unfold S_24_3
    replace H := pRun (ls' := [.ref 0, .int p1, .int x2, .int x3, .int x4]) (st' := [.int (kI 4), .int x4]) 2 rfl H
    rcases pIfc (n1 := 8) rfl (mcb_24 rfl) (mcb_24 rfl) H with ⟨g1, g0, _, H⟩ | ⟨g1, g0, _, H⟩
    · refine pG_pos (c := (kI 4) ≤ x4) g1 ?_
      replace H := pRun (ls' := [.ref 0, .int p1, .int x2, .int x3, .int x4]) (st' := [.int x2]) 1 rfl H
      exact pG_ret (pRetI H)
    · refine pG_neg (c := (kI 4) ≤ x4) g1 ?_
      replace H := pRun (ls' := [.ref 0, .int p1, .int x2, .int x3, .int x4]) (st' := [.ref 0]) 1 rfl H
      replace H := pGetR (r := 138) (pRf hS (by decide +kernel)) rfl H
      replace H := pRun (ls' := [.ref 0, .int p1, .int x2, .int x3, .int x4]) (st' := [.ref 0, .ref 138]) 1 rfl H
      replace H := pGetR (r := 18) (pRf hS (by decide +kernel)) rfl H
      replace H := pRun (ls' := [.ref 0, .int p1, .int x2, .int x3, .int x4]) (st' := [.ref 0, .ref 18, .ref 138]) 1 rfl H
      replace H := pGetR (r := 18) (pRf hS (by decide +kernel)) rfl H
      replace H := pGetR (r := 25) (pRf hS (by decide +kernel)) rfl H
      replace H := pRun (ls' := [.ref 0, .int p1, .int x2, .int x3, .int x4]) (st' := [.int p1, .ref 25, .ref 18, .ref 138]) 1 rfl H
      obtain ⟨g2, H⟩ := pAld (n := 4) (r := 37 + 11 * ix p1) (pArL hS (show pAr 25 4 37 11 3 = true by decide +kernel)) (fun h => pArR hS (show pAr 25 4 37 11 3 = true by decide +kernel) h) H
      refine pG_gd g2 ?_
      replace H := pRun (ls' := [.ref 0, .int p1, .int x2, .int x3, .int x4]) (st' := [.ref 0, .ref (37 + 11 * ix p1), .ref 18, .ref 138]) 1 rfl H
      replace H := pGetR (r := 18) (pRf hS (by decide +kernel)) rfl H
      replace H := pGetR (r := 24) (pRf hS (by decide +kernel)) rfl H
      replace H := pRun (ls' := [.ref 0, .int p1, .int x2, .int x3, .int x4]) (st' := [.int x4, .ref 24, .ref (37 + 11 * ix p1), .ref 18, .ref 138]) 1 rfl H
      obtain ⟨g3, H⟩ := pAld (n := 4) (r := 30 + 11 * ix x4) (pArL hS (show pAr 24 4 30 11 2 = true by decide +kernel)) (fun h => pArR hS (show pAr 24 4 30 11 2 = true by decide +kernel) h) H
      refine pG_gd g3 ?_
      replace H := pRun (ls' := [.ref 0, .int p1, .int x2, .int x3, .int x4]) (st' := [.int (kI 1), .ref (30 + 11 * ix x4), .ref (37 + 11 * ix p1), .ref 18, .ref 138]) 1 rfl H
      obtain ⟨rv, h1, hc, H⟩ := pCalV 208 4 138 (as := [.ref 18, .ref (37 + 11 * ix p1), .ref (30 + 11 * ix x4), .int (kI 1)]) (rest := []) rfl (by decide) (by decide +kernel) rfl rfl H
      obtain ⟨v1, M1, hD, H⟩ := pUseK (D_208_ok hS (pArK (show pAr 25 4 37 11 3 = true by decide +kernel) (by decide) g2) (pArK (show pAr 24 4 30 11 2 = true by decide +kernel) (by decide) g3) hc) H
      refine pG_call (x := v1) (M1 := M1) hD ?_
      replace H := pRun (ls' := [.ref 0, .int p1, .int x2, .int x3, .int x4]) (st' := [.int (kI (-1)), .int x2]) 3 rfl H
      rcases pIfc (n1 := 6) rfl (mcb_24 rfl) (mcb_24 rfl) H with ⟨g4, g0, _, H⟩ | ⟨g4, g0, _, H⟩
      · refine pG_pos (c := x2 = (kI (-1))) g4 ?_
        replace H := pRun (ls' := [.ref 0, .int p1, .int x2, .int x3, .int x4]) (st' := [.ref 0]) 1 rfl H
        replace H := pGetR (r := 138) (pRf hS (by decide +kernel)) rfl H
        replace H := pGetN (v := M1 138 3) rfl (by decide) H
        replace H := pRun (ls' := [.ref 0, .int p1, .int x4, .int (M1 138 3), .int x4]) (st' := []) 3 rfl H
        obtain ⟨g0, _, H⟩ := pFall (mcb_24 rfl) H
        replace H := pRun (ls' := [.ref 0, .int p1, .int x4, .int (M1 138 3), .int (x4 + kI 1)]) (st' := []) 1 rfl H
        obtain ⟨g0, _, H⟩ := pGo (n1 := 3) rfl (mcb_24 rfl) H
        exact (ih _ (by omega)) _ _ _  _ H
      · refine pG_neg (c := x2 = (kI (-1))) g4 ?_
        replace H := pRun (ls' := [.ref 0, .int p1, .int x2, .int x3, .int x4]) (st' := [.ref 0]) 1 rfl H
        replace H := pGetR (r := 138) (pRf hS (by decide +kernel)) rfl H
        replace H := pGetN (v := M1 138 3) rfl (by decide) H
        replace H := pRun (ls' := [.ref 0, .int p1, .int x2, .int x3, .int x4]) (st' := [.int x3, .int (M1 138 3)]) 1 rfl H
        rcases pIfc (n1 := 7) rfl (mcb_24 rfl) (mcb_24 rfl) H with ⟨g5, g0, _, H⟩ | ⟨g5, g0, _, H⟩
        · refine pG_pos (c := x3 ≤ (M1 138 3)) g5 ?_
          replace H := pRun (ls' := [.ref 0, .int p1, .int x2, .int x3, .int (x4 + kI 1)]) (st' := []) 1 rfl H
          obtain ⟨g0, _, H⟩ := pGo (n1 := 3) rfl (mcb_24 rfl) H
          exact (ih _ (by omega)) _ _ _  _ H
        · refine pG_neg (c := x3 ≤ (M1 138 3)) g5 ?_
          replace H := pRun (ls' := [.ref 0, .int p1, .int x2, .int x3, .int x4]) (st' := [.ref 0]) 1 rfl H
          replace H := pGetR (r := 138) (pRf hS (by decide +kernel)) rfl H
          replace H := pGetN (v := M1 138 3) rfl (by decide) H
          replace H := pRun (ls' := [.ref 0, .int p1, .int x4, .int (M1 138 3), .int x4]) (st' := []) 3 rfl H
          obtain ⟨g0, _, H⟩ := pFall (mcb_24 rfl) H
          replace H := pRun (ls' := [.ref 0, .int p1, .int x4, .int (M1 138 3), .int (x4 + kI 1)]) (st' := []) 1 rfl H
          obtain ⟨g0, _, H⟩ := pGo (n1 := 3) rfl (mcb_24 rfl) H
          exact (ih _ (by omega)) _ _ _  _ H
theorem L_24_3_ok {X : aX} {F d : Nat} {K : Nat → aK} (hS : pS K) {p1 : Int32} {out : Option Value × aH} {f : Nat} {x2 : Int32} {x3 : Int32} {x4 : Int32} {M : pMem} (H : pm X F d 24 f 3 [.iload 4, .bipush 4, .if_icmp .ge 8] [.ref 0, .int p1, .int x2, .int x3, .int x4] [] (pH K M) out) : pG eI K out (L_24_3 p1 x2 x3 x4 M) := by
  refine pG_all (C := fun P : (Int32 → Int32 → Int32 → pMem → pT Int32) => C_24 p1 P) (T := fun P => P x2 x3 x4 M) eI_inj (fun _ _ _ _ _ _ => True) ?_ (fun P hP => (K_24 hS P hP f) _ _ _ _ H)
  exact (fun _ _ _ _ _ _ _ => trivial)
theorem D_24_ok {X : aX} {F d : Nat} {K : Nat → aK} (hS : pS K) {p1 : Int32} {M : pMem} {out : Option Value × aH} (H : aM X F d 24 [.ref 0, .int p1] (pH K M) = some out) : pG eI K out (D_24 p1 M) := by
  obtain ⟨d', g0, _, H⟩ := pEnt (n := 5) (ls := [.ref 0, .int p1, aD, aD, aD]) (mcb_24 rfl) (by decide +kernel) rfl H
  unfold D_24
  replace H := pRun (ls' := [.ref 0, .int p1, aD, aD, aD]) (st' := [.int p1]) 1 rfl H
  obtain ⟨rv, h1, hc, H⟩ := pCalT 33 1 (as := [.int p1]) (rest := []) rfl (by decide) (by decide +kernel) rfl rfl H
  replace H := pUseF (f_33_ok hS hc) H
  rcases pIf0 (n1 := 2) rfl (mcb_24 rfl) (mcb_24 rfl) H with ⟨g1, g0, _, H⟩ | ⟨g1, g0, _, H⟩
  · refine pG_pos (c := ¬ (f_33 p1) = 0) g1 ?_
    replace H := pRun (ls' := [.ref 0, .int p1, .int (kI (-1)), .int (kI 0), .int (kI 0)]) (st' := []) 6 rfl H
    obtain ⟨g0, _, H⟩ := pFall (mcb_24 rfl) H
    exact L_24_3_ok hS  H
  · refine pG_neg (c := ¬ (f_33 p1) = 0) g1 ?_
    replace H := pRun (ls' := [.ref 0, .int p1, aD, aD, aD]) (st' := [.int (kI (-1))]) 1 rfl H
    exact pG_ret (pRetI H)
def l_24 : List (Nat × Nat) := [(143, 0), (143, 1), (143, 2), (143, 3), (143, 4), (143, 5), (143, 6), (143, 7), (143, 8), (143, 9), (143, 10), (143, 11), (144, 999), (145, 999), (146, 999), (147, 999), (138, 2), (138, 3)]
theorem FC_24 {p1 : Int32} : C_24 p1 (fun _ _ _ M _ N => pFr (l_24) M N) := fun x2 x3 x4 M => show pTf (l_24) M (S_24_3 p1 _ x2 x3 x4 M) from (tf_if (tf_ret pFr_refl) (tf_gd fun g2 => (tf_gd fun g3 => (tf_call pFr_refl (fun _ _ h => F_208 (pArK (show pAr 25 4 37 11 3 = true by decide +kernel) (by decide) g2) (pArK (show pAr 24 4 30 11 2 = true by decide +kernel) (by decide) g3) h) [0, 1, 2, 3, 4, 5, 6, 7, 8, 9, 10, 11, 12, 13, 14, 15, 16, 17] rfl fun _ M1 f1 => (tf_if (tf_jump f1) (tf_if (tf_jump f1) (tf_jump f1)))))))
theorem F_24 {p1 : Int32} {M : pMem} {v : Int32} {N : pMem} (h : D_24 p1 M v N) : pFr (l_24) M N :=
  (show pTf (l_24) M (D_24 p1 M) from (tf_if (tf_jumpL (fun _ _ _ M _ N => pFr (l_24) M N) (FC_24) rfl pFr_refl) (tf_ret pFr_refl))) v N h
/-- TwoCamps.number(II)Z -/
def D_25 (p1 : Int32) (p2 : Int32) (M : pMem) : pT Int32 := tIf ((f_222 19 p1 M) = 0) (tRet (kI 0) M) (tIf (p2 < 0) (tRet (kI 0) M) (tIf (p2 ≤ (kI 99)) (tGd (pIn p1 24) <| tPut (aPut M 29 (ix p1) p2) fun M1 => tRet (kI 1) M1) (tRet (kI 0) M)))
theorem D_25_ok {X : aX} {F d : Nat} {K : Nat → aK} (hS : pS K) {p1 : Int32} {p2 : Int32} {M : pMem} {out : Option Value × aH} (H : aM X F d 25 [.ref 0, .int p1, .int p2] (pH K M) = some out) : pG eI K out (D_25 p1 p2 M) := by
  obtain ⟨d', g0, _, H⟩ := pEnt (n := 3) (ls := [.ref 0, .int p1, .int p2]) (mcb_25 rfl) (by decide +kernel) rfl H
  unfold D_25
  replace H := pRun (ls' := [.ref 0, .int p1, .int p2]) (st' := [.ref 0]) 1 rfl H
  replace H := pGetR (r := 18) (pRf hS (by decide +kernel)) rfl H
  replace H := pGetR (r := 19) (pRf hS (by decide +kernel)) rfl H
  replace H := pRun (ls' := [.ref 0, .int p1, .int p2]) (st' := [.int p1, .ref 19]) 1 rfl H
  obtain ⟨rv, h1, hc, H⟩ := pCalV 222 1 19 (as := [.int p1]) (rest := []) rfl (by decide) (by decide +kernel) rfl rfl H
  replace H := pUseF (f_222_ok hS (show pK 10 19 = true by decide +kernel) hc) H
  rcases pIf0 (n1 := 3) rfl (mcb_25 rfl) (mcb_25 rfl) H with ⟨g1, g0, _, H⟩ | ⟨g1, g0, _, H⟩
  · refine pG_pos (c := (f_222 19 p1 M) = 0) g1 ?_
    replace H := pRun (ls' := [.ref 0, .int p1, .int p2]) (st' := [.int (kI 0)]) 1 rfl H
    exact pG_ret (pRetI H)
  · refine pG_neg (c := (f_222 19 p1 M) = 0) g1 ?_
    replace H := pRun (ls' := [.ref 0, .int p1, .int p2]) (st' := [.int p2]) 1 rfl H
    rcases pIf0 (n1 := 3) rfl (mcb_25 rfl) (mcb_25 rfl) H with ⟨g2, g0, _, H⟩ | ⟨g2, g0, _, H⟩
    · refine pG_pos (c := p2 < 0) g2 ?_
      replace H := pRun (ls' := [.ref 0, .int p1, .int p2]) (st' := [.int (kI 0)]) 1 rfl H
      exact pG_ret (pRetI H)
    · refine pG_neg (c := p2 < 0) g2 ?_
      replace H := pRun (ls' := [.ref 0, .int p1, .int p2]) (st' := [.int (kI 99), .int p2]) 2 rfl H
      rcases pIfc (n1 := 4) rfl (mcb_25 rfl) (mcb_25 rfl) H with ⟨g3, g0, _, H⟩ | ⟨g3, g0, _, H⟩
      · refine pG_pos (c := p2 ≤ (kI 99)) g3 ?_
        replace H := pRun (ls' := [.ref 0, .int p1, .int p2]) (st' := [.ref 0]) 1 rfl H
        replace H := pGetR (r := 18) (pRf hS (by decide +kernel)) rfl H
        replace H := pGetR (r := 29) (pRf hS (by decide +kernel)) rfl H
        replace H := pRun (ls' := [.ref 0, .int p1, .int p2]) (st' := [.int p2, .int p1, .ref 29]) 2 rfl H
        obtain ⟨g4, M1, eM1, H⟩ := pIst (n := 24) (pLn hS (show pCa 29 24 = true by decide +kernel)) H
        refine pG_gd g4 (pG_put (M2 := M1) eM1 ?_)
        replace H := pRun (ls' := [.ref 0, .int p1, .int p2]) (st' := [.int (kI 1)]) 1 rfl H
        exact pG_ret (pRetI H)
      · refine pG_neg (c := p2 ≤ (kI 99)) g3 ?_
        replace H := pRun (ls' := [.ref 0, .int p1, .int p2]) (st' := [.int (kI 0)]) 1 rfl H
        exact pG_ret (pRetI H)
def l_25 : List (Nat × Nat) := [(29, 999)]
theorem F_25 {p1 : Int32} {p2 : Int32} {M : pMem} {v : Int32} {N : pMem} (h : D_25 p1 p2 M v N) : pFr (l_25) M N :=
  (show pTf (l_25) M (D_25 p1 p2 M) from (tf_if (tf_ret pFr_refl) (tf_if (tf_ret pFr_refl) (tf_if (tf_gd fun g4 => (tf_putA pFr_refl 0 rfl fun M1 f1 => (tf_ret f1))) (tf_ret pFr_refl))))) v N h
/-- TwoCamps.cut(I)I -/
def D_26 (p1 : Int32) (M : pMem) : pT Int32 := tIf (p1 < 0) (tRet (kI (-1)) M) (tIf (p1 ≤ (kI 2)) (tCall (D_147 19 M) fun v1 M1 => tIf (¬ p1 = (kI 1)) (tCall (D_148 19 v1 M1) fun v2 M2 => tIf (p1 = 0) (tRet v2 M2) (tIf (0 < v1) (tGd (¬ (Int32.toInt64 v1) = 0) <| tRet (Int64.toInt32 (((Int64.ofInt 1000) * (Int32.toInt64 v2)) / (Int32.toInt64 v1))) M2) (tRet v2 M2))) (tRet v1 M1)) (tRet (kI (-1)) M))
theorem D_26_ok {X : aX} {F d : Nat} {K : Nat → aK} (hS : pS K) {p1 : Int32} {M : pMem} {out : Option Value × aH} (H : aM X F d 26 [.ref 0, .int p1] (pH K M) = some out) : pG eI K out (D_26 p1 M) := by
  obtain ⟨d', g0, _, H⟩ := pEnt (n := 4) (ls := [.ref 0, .int p1, aD, aD]) (mcb_26 rfl) (by decide +kernel) rfl H
  unfold D_26
  replace H := pRun (ls' := [.ref 0, .int p1, aD, aD]) (st' := [.int p1]) 1 rfl H
  rcases pIf0 (n1 := 2) rfl (mcb_26 rfl) (mcb_26 rfl) H with ⟨g1, g0, _, H⟩ | ⟨g1, g0, _, H⟩
  · refine pG_pos (c := p1 < 0) g1 ?_
    replace H := pRun (ls' := [.ref 0, .int p1, aD, aD]) (st' := [.int (kI (-1))]) 1 rfl H
    exact pG_ret (pRetI H)
  · refine pG_neg (c := p1 < 0) g1 ?_
    replace H := pRun (ls' := [.ref 0, .int p1, aD, aD]) (st' := [.int (kI 2), .int p1]) 2 rfl H
    rcases pIfc (n1 := 3) rfl (mcb_26 rfl) (mcb_26 rfl) H with ⟨g2, g0, _, H⟩ | ⟨g2, g0, _, H⟩
    · refine pG_pos (c := p1 ≤ (kI 2)) g2 ?_
      replace H := pRun (ls' := [.ref 0, .int p1, aD, aD]) (st' := [.ref 0]) 1 rfl H
      replace H := pGetR (r := 173) (pRf hS (by decide +kernel)) rfl H
      replace H := pRun (ls' := [.ref 0, .int p1, aD, aD]) (st' := [.ref 0, .ref 173]) 1 rfl H
      replace H := pGetR (r := 18) (pRf hS (by decide +kernel)) rfl H
      replace H := pGetR (r := 19) (pRf hS (by decide +kernel)) rfl H
      obtain ⟨rv, h1, hc, H⟩ := pCalV 147 1 173 (as := [.ref 19]) (rest := []) rfl (by decide) (by decide +kernel) rfl rfl H
      obtain ⟨v1, M1, hD, H⟩ := pUseI (D_147_ok hS (show pK 10 19 = true by decide +kernel) hc) H
      refine pG_call (x := v1) (M1 := M1) hD ?_
      replace H := pRun (ls' := [.ref 0, .int p1, .int v1, aD]) (st' := [.int (kI 1), .int p1]) 3 rfl H
      rcases pIfc (n1 := 5) rfl (mcb_26 rfl) (mcb_26 rfl) H with ⟨g3, g0, _, H⟩ | ⟨g3, g0, _, H⟩
      · refine pG_pos (c := ¬ p1 = (kI 1)) g3 ?_
        replace H := pRun (ls' := [.ref 0, .int p1, .int v1, aD]) (st' := [.ref 0]) 1 rfl H
        replace H := pGetR (r := 173) (pRf hS (by decide +kernel)) rfl H
        replace H := pRun (ls' := [.ref 0, .int p1, .int v1, aD]) (st' := [.ref 0, .ref 173]) 1 rfl H
        replace H := pGetR (r := 18) (pRf hS (by decide +kernel)) rfl H
        replace H := pGetR (r := 19) (pRf hS (by decide +kernel)) rfl H
        replace H := pRun (ls' := [.ref 0, .int p1, .int v1, aD]) (st' := [.ref 0, .ref 19, .ref 173]) 1 rfl H
        replace H := pGetR (r := 18) (pRf hS (by decide +kernel)) rfl H
        replace H := pGetR (r := 29) (pRf hS (by decide +kernel)) rfl H
        replace H := pRun (ls' := [.ref 0, .int p1, .int v1, aD]) (st' := [.int v1, .ref 29, .ref 19, .ref 173]) 1 rfl H
        obtain ⟨rv, h1, hc, H⟩ := pCalV 148 3 173 (as := [.ref 19, .ref 29, .int v1]) (rest := []) rfl (by decide) (by decide +kernel) rfl rfl H
        obtain ⟨v2, M2, hD, H⟩ := pUseI (D_148_ok hS (show pK 10 19 = true by decide +kernel) hc) H
        refine pG_call (x := v2) (M1 := M2) hD ?_
        replace H := pRun (ls' := [.ref 0, .int p1, .int v1, .int v2]) (st' := [.int p1]) 2 rfl H
        rcases pIf0 (n1 := 7) rfl (mcb_26 rfl) (mcb_26 rfl) H with ⟨g4, g0, _, H⟩ | ⟨g4, g0, _, H⟩
        · refine pG_pos (c := p1 = 0) g4 ?_
          replace H := pRun (ls' := [.ref 0, .int p1, .int v1, .int v2]) (st' := [.int v2]) 1 rfl H
          obtain ⟨g0, _, H⟩ := pGo (n1 := 9) rfl (mcb_26 rfl) H
          exact pG_ret (pRetI H)
        · refine pG_neg (c := p1 = 0) g4 ?_
          replace H := pRun (ls' := [.ref 0, .int p1, .int v1, .int v2]) (st' := [.int v1]) 1 rfl H
          rcases pIf0 (n1 := 8) rfl (mcb_26 rfl) (mcb_26 rfl) H with ⟨g5, g0, _, H⟩ | ⟨g5, g0, _, H⟩
          · refine pG_pos (c := 0 < v1) g5 ?_
            replace H := pLd2 (x := 1000) (by decide) H
            replace H := pRun (ls' := [.ref 0, .int p1, .int v1, .int v2]) (st' := [.long (Int32.toInt64 v1), .long ((Int64.ofInt 1000) * (Int32.toInt64 v2))]) 5 rfl H
            obtain ⟨g6, H⟩ := pLdv H
            refine pG_gd g6 ?_
            replace H := pRun (ls' := [.ref 0, .int p1, .int v1, .int v2]) (st' := [.int (Int64.toInt32 (((Int64.ofInt 1000) * (Int32.toInt64 v2)) / (Int32.toInt64 v1)))]) 1 rfl H
            obtain ⟨g0, _, H⟩ := pFall (mcb_26 rfl) H
            exact pG_ret (pRetI H)
          · refine pG_neg (c := 0 < v1) g5 ?_
            replace H := pRun (ls' := [.ref 0, .int p1, .int v1, .int v2]) (st' := [.int v2]) 1 rfl H
            obtain ⟨g0, _, H⟩ := pGo (n1 := 9) rfl (mcb_26 rfl) H
            exact pG_ret (pRetI H)
      · refine pG_neg (c := ¬ p1 = (kI 1)) g3 ?_
        replace H := pRun (ls' := [.ref 0, .int p1, .int v1, aD]) (st' := [.int v1]) 1 rfl H
        exact pG_ret (pRetI H)
    · refine pG_neg (c := p1 ≤ (kI 2)) g2 ?_
      replace H := pRun (ls' := [.ref 0, .int p1, aD, aD]) (st' := [.int (kI (-1))]) 1 rfl H
      exact pG_ret (pRetI H)
def l_26 : List (Nat × Nat) := []
theorem F_26 {p1 : Int32} {M : pMem} {v : Int32} {N : pMem} (h : D_26 p1 M v N) : pFr (l_26) M N :=
  (show pTf (l_26) M (D_26 p1 M) from (tf_if (tf_ret pFr_refl) (tf_if (tf_call pFr_refl (fun _ _ h => F_147 (show pK 10 19 = true by decide +kernel) h) [] rfl fun _ M1 f1 => (tf_if (tf_call f1 (fun _ _ h => F_148 (show pK 10 19 = true by decide +kernel) h) [] rfl fun _ M2 f2 => (tf_if (tf_ret f2) (tf_if (tf_gd fun g6 => (tf_ret f2)) (tf_ret f2)))) (tf_ret f1))) (tf_ret pFr_refl)))) v N h
/-- TwoCamps.woods(II)I -/
def S_27_6 (p1 : Int32) (p2 : Int32) (P6 : Int32 → pMem → pT Int32) (x3 : Int32) (M : pMem) : pT Int32 := tIf ((kI 60) < x3) (tRet (kI (-1)) M) (tCall (D_40 x3 p1 M) fun v1 M1 => tIf (0 ≤ (lg_cmp (v1 * (Int32.toInt64 p2)) ((Int64.ofNat 1) <<< (Int32.toInt64 x3 &&& 63)))) (P6 (x3 + kI 1) M1) (tRet x3 M1))
def C_27 (p1 : Int32) (p2 : Int32) (P6 : Int32 → pMem → pT Int32) : Prop := (∀ (x3 : Int32) M v N, S_27_6 p1 p2 P6 x3 M v N → P6 x3 M v N)
def L_27_6 (p1 : Int32) (p2 : Int32) (x3 : Int32) (M : pMem) : pT Int32 := fun v N => ∀ P : (Int32 → pMem → pT Int32), C_27 p1 p2 P → P x3 M v N
def D_27 (p1 : Int32) (p2 : Int32) (M : pMem) : pT Int32 := tIf (p1 < 0) (tRet (kI (-1)) M) (tIf ((kI 9) < p1) (tRet (kI (-1)) M) (tIf (p2 < (kI 2)) (tRet (kI (-1)) M) (tIf (p2 ≤ (kI 100000)) (L_27_6 p1 p2 (kI 1) M) (tRet (kI (-1)) M))))
theorem K_27 {X : aX} {F d : Nat} {K : Nat → aK} (hS : pS K) {p1 : Int32} {p2 : Int32} {out : Option Value × aH} (P6 : Int32 → pMem → pT Int32) (hC : C_27 p1 p2 P6) : ∀ f, (∀ (x3 : Int32) M, pm X F d 27 f 6 [.iload 3, .bipush 60, .if_icmp .gt 10] [.ref 0, .int p1, .int p2, .int x3] [] (pH K M) out → pG eI K out (P6 x3 M)) := by
  intro f
  induction f using Nat.strongRecOn with
  | _ f ih =>
    intro x3 M H
    refine pG_mono (fun v N h => hC x3 M v N h) ?_
    unfold S_27_6
    replace H := pRun (ls' := [.ref 0, .int p1, .int p2, .int x3]) (st' := [.int (kI 60), .int x3]) 2 rfl H
    rcases pIfc (n1 := 10) rfl (mcb_27 rfl) (mcb_27 rfl) H with ⟨g1, g0, _, H⟩ | ⟨g1, g0, _, H⟩
    · refine pG_pos (c := (kI 60) < x3) g1 ?_
      replace H := pRun (ls' := [.ref 0, .int p1, .int p2, .int x3]) (st' := [.int (kI (-1))]) 1 rfl H
      exact pG_ret (pRetI H)
    · refine pG_neg (c := (kI 60) < x3) g1 ?_
      replace H := pRun (ls' := [.ref 0, .int p1, .int p2, .int x3]) (st' := [.int p1, .int x3]) 2 rfl H
      obtain ⟨rv, h1, hc, H⟩ := pCalT 40 2 (as := [.int x3, .int p1]) (rest := []) rfl (by decide) (by decide +kernel) rfl rfl H
      obtain ⟨v1, M1, hD, H⟩ := pUseL (D_40_ok hS hc) H
      refine pG_call (x := v1) (M1 := M1) hD ?_
      replace H := pRun (ls' := [.ref 0, .int p1, .int p2, .int x3]) (st' := [.int (lg_cmp (v1 * (Int32.toInt64 p2)) ((Int64.ofNat 1) <<< (Int32.toInt64 x3 &&& 63)))]) 7 rfl H
      rcases pIf0 (n1 := 9) rfl (mcb_27 rfl) (mcb_27 rfl) H with ⟨g2, g0, _, H⟩ | ⟨g2, g0, _, H⟩
      · refine pG_pos (c := 0 ≤ (lg_cmp (v1 * (Int32.toInt64 p2)) ((Int64.ofNat 1) <<< (Int32.toInt64 x3 &&& 63)))) g2 ?_
        replace H := pRun (ls' := [.ref 0, .int p1, .int p2, .int (x3 + kI 1)]) (st' := []) 1 rfl H
        obtain ⟨g0, _, H⟩ := pGo (n1 := 6) rfl (mcb_27 rfl) H
        exact (ih _ (by omega)) _  _ H
      · refine pG_neg (c := 0 ≤ (lg_cmp (v1 * (Int32.toInt64 p2)) ((Int64.ofNat 1) <<< (Int32.toInt64 x3 &&& 63)))) g2 ?_
        replace H := pRun (ls' := [.ref 0, .int p1, .int p2, .int x3]) (st' := [.int x3]) 1 rfl H
        exact pG_ret (pRetI H)
theorem L_27_6_ok {X : aX} {F d : Nat} {K : Nat → aK} (hS : pS K) {p1 : Int32} {p2 : Int32} {out : Option Value × aH} {f : Nat} {x3 : Int32} {M : pMem} (H : pm X F d 27 f 6 [.iload 3, .bipush 60, .if_icmp .gt 10] [.ref 0, .int p1, .int p2, .int x3] [] (pH K M) out) : pG eI K out (L_27_6 p1 p2 x3 M) := by
  refine pG_all (C := fun P : (Int32 → pMem → pT Int32) => C_27 p1 p2 P) (T := fun P => P x3 M) eI_inj (fun _ _ _ _ => True) ?_ (fun P hP => (K_27 hS P hP f) _ _ H)
  exact (fun _ _ _ _ _ => trivial)
theorem D_27_ok {X : aX} {F d : Nat} {K : Nat → aK} (hS : pS K) {p1 : Int32} {p2 : Int32} {M : pMem} {out : Option Value × aH} (H : aM X F d 27 [.ref 0, .int p1, .int p2] (pH K M) = some out) : pG eI K out (D_27 p1 p2 M) := by
  obtain ⟨d', g0, _, H⟩ := pEnt (n := 4) (ls := [.ref 0, .int p1, .int p2, aD]) (mcb_27 rfl) (by decide +kernel) rfl H
  unfold D_27
  replace H := pRun (ls' := [.ref 0, .int p1, .int p2, aD]) (st' := [.int p1]) 1 rfl H
  rcases pIf0 (n1 := 4) rfl (mcb_27 rfl) (mcb_27 rfl) H with ⟨g1, g0, _, H⟩ | ⟨g1, g0, _, H⟩
  · refine pG_pos (c := p1 < 0) g1 ?_
    replace H := pRun (ls' := [.ref 0, .int p1, .int p2, aD]) (st' := [.int (kI (-1))]) 1 rfl H
    exact pG_ret (pRetI H)
  · refine pG_neg (c := p1 < 0) g1 ?_
    replace H := pRun (ls' := [.ref 0, .int p1, .int p2, aD]) (st' := [.int (kI 9), .int p1]) 2 rfl H
    rcases pIfc (n1 := 4) rfl (mcb_27 rfl) (mcb_27 rfl) H with ⟨g2, g0, _, H⟩ | ⟨g2, g0, _, H⟩
    · refine pG_pos (c := (kI 9) < p1) g2 ?_
      replace H := pRun (ls' := [.ref 0, .int p1, .int p2, aD]) (st' := [.int (kI (-1))]) 1 rfl H
      exact pG_ret (pRetI H)
    · refine pG_neg (c := (kI 9) < p1) g2 ?_
      replace H := pRun (ls' := [.ref 0, .int p1, .int p2, aD]) (st' := [.int (kI 2), .int p2]) 2 rfl H
      rcases pIfc (n1 := 4) rfl (mcb_27 rfl) (mcb_27 rfl) H with ⟨g3, g0, _, H⟩ | ⟨g3, g0, _, H⟩
      · refine pG_pos (c := p2 < (kI 2)) g3 ?_
        replace H := pRun (ls' := [.ref 0, .int p1, .int p2, aD]) (st' := [.int (kI (-1))]) 1 rfl H
        exact pG_ret (pRetI H)
      · refine pG_neg (c := p2 < (kI 2)) g3 ?_
        replace H := pRun (ls' := [.ref 0, .int p1, .int p2, aD]) (st' := [.int p2]) 1 rfl H
        replace H := pLdc (x := 100000) (by decide) H
        rcases pIfc (n1 := 5) rfl (mcb_27 rfl) (mcb_27 rfl) H with ⟨g4, g0, _, H⟩ | ⟨g4, g0, _, H⟩
        · refine pG_pos (c := p2 ≤ (kI 100000)) g4 ?_
          replace H := pRun (ls' := [.ref 0, .int p1, .int p2, .int (kI 1)]) (st' := []) 2 rfl H
          obtain ⟨g0, _, H⟩ := pFall (mcb_27 rfl) H
          exact L_27_6_ok hS  H
        · refine pG_neg (c := p2 ≤ (kI 100000)) g4 ?_
          replace H := pRun (ls' := [.ref 0, .int p1, .int p2, aD]) (st' := [.int (kI (-1))]) 1 rfl H
          exact pG_ret (pRetI H)
def l_27 : List (Nat × Nat) := []
theorem FC_27 {p1 : Int32} {p2 : Int32} : C_27 p1 p2 (fun _ M _ N => pFr (l_27) M N) := fun x3 M => show pTf (l_27) M (S_27_6 p1 p2 _ x3 M) from (tf_if (tf_ret pFr_refl) (tf_call pFr_refl (fun _ _ h => F_40 h) [] rfl fun _ M1 f1 => (tf_if (tf_jump f1) (tf_ret f1))))
theorem F_27 {p1 : Int32} {p2 : Int32} {M : pMem} {v : Int32} {N : pMem} (h : D_27 p1 p2 M v N) : pFr (l_27) M N :=
  (show pTf (l_27) M (D_27 p1 p2 M) from (tf_if (tf_ret pFr_refl) (tf_if (tf_ret pFr_refl) (tf_if (tf_ret pFr_refl) (tf_if (tf_jumpL (fun _ M _ N => pFr (l_27) M N) (FC_27) rfl pFr_refl) (tf_ret pFr_refl)))))) v N h
/-- TwoCamps.image(Z)Z -/
def D_28 (p1 : Int32) (M : pMem) : pT Int32 := tIf (p1 = 0) (tIf ((M 0 8) = 0) (tRet (M 0 8) M) (tCall (D_216b M) fun _ M1 => tRet (M1 0 8) M1)) (tCall (D_216t M) fun _ M1 => tPut (aPut M1 0 8 (kI 1)) fun M2 => tRet (M2 0 8) M2)
theorem D_28_ok {X : aX} {F d : Nat} {K : Nat → aK} (hS : pS K) {p1 : Int32} {M : pMem} {out : Option Value × aH} (H : aM X F d 28 [.ref 0, .int p1] (pH K M) = some out) : pG eI K out (D_28 p1 M) := by
  obtain ⟨d', g0, _, H⟩ := pEnt (n := 2) (ls := [.ref 0, .int p1]) (mcb_28 rfl) (by decide +kernel) rfl H
  unfold D_28
  replace H := pRun (ls' := [.ref 0, .int p1]) (st' := [.int p1]) 1 rfl H
  rcases pIf0 (n1 := 2) rfl (mcb_28 rfl) (mcb_28 rfl) H with ⟨g1, g0, _, H⟩ | ⟨g1, g0, _, H⟩
  · refine pG_pos (c := p1 = 0) g1 ?_
    replace H := pRun (ls' := [.ref 0, .int p1]) (st' := [.ref 0]) 1 rfl H
    replace H := pGetN (v := M 0 8) rfl (by decide) H
    rcases pIf0 (n1 := 4) rfl (mcb_28 rfl) (mcb_28 rfl) H with ⟨g2, g0, _, H⟩ | ⟨g2, g0, _, H⟩
    · refine pG_pos (c := (M 0 8) = 0) g2 ?_
      replace H := pRun (ls' := [.ref 0, .int p1]) (st' := [.ref 0]) 1 rfl H
      replace H := pGetN (v := M 0 8) rfl (by decide) H
      exact pG_ret (pRetI H)
    · refine pG_neg (c := (M 0 8) = 0) g2 ?_
      replace H := pRun (ls' := [.ref 0, .int p1]) (st' := [.ref 0]) 1 rfl H
      replace H := pGetR (r := 18) (pRf hS (by decide +kernel)) rfl H
      replace H := pRun (ls' := [.ref 0, .int p1]) (st' := [.ref 0, .ref 18]) 1 rfl H
      replace H := pGetR (r := 74) (pRf hS (by decide +kernel)) rfl H
      obtain ⟨rv, h1, hc, H⟩ := pCalV 216 1 18 (as := [.ref 74]) (rest := []) rfl (by decide) (by decide +kernel) rfl rfl H
      obtain ⟨v1, M1, hD, H⟩ := pUseU (D_216b_ok hS hc) H
      refine pG_call (x := v1) (M1 := M1) hD ?_
      obtain ⟨g0, _, H⟩ := pFall (mcb_28 rfl) H
      replace H := pRun (ls' := [.ref 0, .int p1]) (st' := [.ref 0]) 1 rfl H
      replace H := pGetN (v := M1 0 8) rfl (by decide) H
      exact pG_ret (pRetI H)
  · refine pG_neg (c := p1 = 0) g1 ?_
    replace H := pRun (ls' := [.ref 0, .int p1]) (st' := [.ref 0]) 1 rfl H
    replace H := pGetR (r := 74) (pRf hS (by decide +kernel)) rfl H
    replace H := pRun (ls' := [.ref 0, .int p1]) (st' := [.ref 0, .ref 74]) 1 rfl H
    replace H := pGetR (r := 18) (pRf hS (by decide +kernel)) rfl H
    obtain ⟨rv, h1, hc, H⟩ := pCalV 216 1 74 (as := [.ref 18]) (rest := []) rfl (by decide) (by decide +kernel) rfl rfl H
    obtain ⟨v1, M1, hD, H⟩ := pUseU (D_216t_ok hS hc) H
    refine pG_call (x := v1) (M1 := M1) hD ?_
    replace H := pRun (ls' := [.ref 0, .int p1]) (st' := [.int (kI 1), .ref 0]) 2 rfl H
    obtain ⟨M2, eM2, H⟩ := pPutN (j := 8) rfl H
    refine pG_put (M2 := M2) eM2 ?_
    obtain ⟨g0, _, H⟩ := pGo (n1 := 4) rfl (mcb_28 rfl) H
    replace H := pRun (ls' := [.ref 0, .int p1]) (st' := [.ref 0]) 1 rfl H
    replace H := pGetN (v := M2 0 8) rfl (by decide) H
    exact pG_ret (pRetI H)
/-- TwoCamps.look(I)I -/
def D_29 (p1 : Int32) (M : pMem) : pT Int32 := tIf (p1 = kI 0) (tRet (M 19 0) M) <| tIf (p1 = kI 1) (tRet (f_239 (M 19 2)) M) <| tIf (p1 = kI 2) (tRet (M 19 4) M) <| tIf (p1 = kI 3) (tCall (D_230 19 M) fun v1 M1 => tRet v1 M1) <| tIf (p1 = kI 4) (tRet (M 18 7) M) <| tIf (p1 = kI 5) (tRet (f_236 19 (kI 4) M) M) <| tIf (p1 = kI 6) (tRet (f_239 (M 19 3)) M) <| tIf (p1 = kI 7) (tRet (M 18 8) M) <| tRet (kI (-100)) M
theorem D_29_ok {X : aX} {F d : Nat} {K : Nat → aK} (hS : pS K) {p1 : Int32} {M : pMem} {out : Option Value × aH} (H : aM X F d 29 [.ref 0, .int p1] (pH K M) = some out) : pG eI K out (D_29 p1 M) := by
  obtain ⟨d', g0, _, H⟩ := pEnt (n := 3) (ls := [.ref 0, .int p1, aD]) (mcb_29 rfl) (by decide +kernel) rfl H
  unfold D_29
  replace H := pRun (ls' := [.ref 0, .int p1, aD]) (st' := [.ref 0]) 1 rfl H
  replace H := pGetR (r := 18) (pRf hS (by decide +kernel)) rfl H
  replace H := pGetR (r := 19) (pRf hS (by decide +kernel)) rfl H
  replace H := pRun (ls' := [.ref 0, .int p1, .ref 19]) (st' := [.int p1]) 2 rfl H
  by_cases g1 : p1 = kI 0
  · refine pG_pos g1 ?_
    obtain ⟨g0, _, H⟩ := pTsC g1 (by decide) (n1 := 1) rfl (mcb_29 rfl) H
    replace H := pRun (ls' := [.ref 0, .int p1, .ref 19]) (st' := [.ref 19]) 1 rfl H
    replace H := pGetN (v := M 19 0) rfl (by decide) H
    exact pG_ret (pRetI H)
  refine pG_neg g1 ?_
  by_cases g2 : p1 = kI 1
  · refine pG_pos g2 ?_
    obtain ⟨g0, _, H⟩ := pTsC g2 (by decide) (n1 := 2) rfl (mcb_29 rfl) H
    replace H := pRun (ls' := [.ref 0, .int p1, .ref 19]) (st' := [.ref 19]) 1 rfl H
    replace H := pGetN (v := M 19 2) rfl (by decide) H
    obtain ⟨rv, h1, hc, H⟩ := pCalT 239 1 (as := [.int (M 19 2)]) (rest := []) rfl (by decide) (by decide +kernel) rfl rfl H
    replace H := pUseF (f_239_ok hS hc) H
    exact pG_ret (pRetI H)
  refine pG_neg g2 ?_
  by_cases g3 : p1 = kI 2
  · refine pG_pos g3 ?_
    obtain ⟨g0, _, H⟩ := pTsC g3 (by decide) (n1 := 3) rfl (mcb_29 rfl) H
    replace H := pRun (ls' := [.ref 0, .int p1, .ref 19]) (st' := [.ref 19]) 1 rfl H
    replace H := pGetN (v := M 19 4) rfl (by decide) H
    exact pG_ret (pRetI H)
  refine pG_neg g3 ?_
  by_cases g4 : p1 = kI 3
  · refine pG_pos g4 ?_
    obtain ⟨g0, _, H⟩ := pTsC g4 (by decide) (n1 := 4) rfl (mcb_29 rfl) H
    replace H := pRun (ls' := [.ref 0, .int p1, .ref 19]) (st' := [.ref 19]) 1 rfl H
    obtain ⟨rv, h1, hc, H⟩ := pCalV 230 0 19 (as := []) (rest := []) rfl (by decide) (by decide +kernel) rfl rfl H
    obtain ⟨v1, M1, hD, H⟩ := pUseI (D_230_ok hS (show pK 10 19 = true by decide +kernel) hc) H
    refine pG_call (x := v1) (M1 := M1) hD ?_
    exact pG_ret (pRetI H)
  refine pG_neg g4 ?_
  by_cases g5 : p1 = kI 4
  · refine pG_pos g5 ?_
    obtain ⟨g0, _, H⟩ := pTsC g5 (by decide) (n1 := 5) rfl (mcb_29 rfl) H
    replace H := pRun (ls' := [.ref 0, .int p1, .ref 19]) (st' := [.ref 0]) 1 rfl H
    replace H := pGetR (r := 18) (pRf hS (by decide +kernel)) rfl H
    replace H := pGetN (v := M 18 7) rfl (by decide) H
    exact pG_ret (pRetI H)
  refine pG_neg g5 ?_
  by_cases g6 : p1 = kI 5
  · refine pG_pos g6 ?_
    obtain ⟨g0, _, H⟩ := pTsC g6 (by decide) (n1 := 6) rfl (mcb_29 rfl) H
    replace H := pRun (ls' := [.ref 0, .int p1, .ref 19]) (st' := [.int (kI 4), .ref 19]) 2 rfl H
    obtain ⟨rv, h1, hc, H⟩ := pCalV 236 1 19 (as := [.int (kI 4)]) (rest := []) rfl (by decide) (by decide +kernel) rfl rfl H
    replace H := pUseF (f_236_ok hS (show pK 10 19 = true by decide +kernel) hc) H
    exact pG_ret (pRetI H)
  refine pG_neg g6 ?_
  by_cases g7 : p1 = kI 6
  · refine pG_pos g7 ?_
    obtain ⟨g0, _, H⟩ := pTsC g7 (by decide) (n1 := 7) rfl (mcb_29 rfl) H
    replace H := pRun (ls' := [.ref 0, .int p1, .ref 19]) (st' := [.ref 19]) 1 rfl H
    replace H := pGetN (v := M 19 3) rfl (by decide) H
    obtain ⟨rv, h1, hc, H⟩ := pCalT 239 1 (as := [.int (M 19 3)]) (rest := []) rfl (by decide) (by decide +kernel) rfl rfl H
    replace H := pUseF (f_239_ok hS hc) H
    exact pG_ret (pRetI H)
  refine pG_neg g7 ?_
  by_cases g8 : p1 = kI 7
  · refine pG_pos g8 ?_
    obtain ⟨g0, _, H⟩ := pTsC g8 (by decide) (n1 := 8) rfl (mcb_29 rfl) H
    replace H := pRun (ls' := [.ref 0, .int p1, .ref 19]) (st' := [.ref 0]) 1 rfl H
    replace H := pGetR (r := 18) (pRf hS (by decide +kernel)) rfl H
    replace H := pGetN (v := M 18 8) rfl (by decide) H
    exact pG_ret (pRetI H)
  refine pG_neg g8 ?_
  obtain ⟨g0, _, H⟩ := pTsD (n1 := 9) (fun v h1 h2 => by
    have hv : v = 0 ∨ v = 1 ∨ v = 2 ∨ v = 3 ∨ v = 4 ∨ v = 5 ∨ v = 6 ∨ v = 7 := by omega
    rcases hv with rfl | rfl | rfl | rfl | rfl | rfl | rfl | rfl
    · exact g1
    · exact g2
    · exact g3
    · exact g4
    · exact g5
    · exact g6
    · exact g7
    · exact g8) rfl (mcb_29 rfl) H
  replace H := pRun (ls' := [.ref 0, .int p1, .ref 19]) (st' := [.int (kI (-100))]) 1 rfl H
  exact pG_ret (pRetI H)
def l_29 : List (Nat × Nat) := []
theorem F_29 {p1 : Int32} {M : pMem} {v : Int32} {N : pMem} (h : D_29 p1 M v N) : pFr (l_29) M N :=
  (show pTf (l_29) M (D_29 p1 M) from (tf_if (tf_ret pFr_refl) (tf_if (tf_ret pFr_refl) (tf_if (tf_ret pFr_refl) (tf_if (tf_call pFr_refl (fun _ _ h => F_230 (show pK 10 19 = true by decide +kernel) h) [] rfl fun _ M1 f1 => (tf_ret f1)) (tf_if (tf_ret pFr_refl) (tf_if (tf_ret pFr_refl) (tf_if (tf_ret pFr_refl) (tf_if (tf_ret pFr_refl) (tf_ret pFr_refl)))))))))) v N h
/-- TwoCampsModel.isIn(III)Z -/
def f_42 (p1 : Int32) (p2 : Int32) (p3 : Int32) : Int32 := if p1 < p2 then (kI 0) else if p3 < p1 then (kI 0) else (kI 1)
theorem f_42_ok {X : aX} {F d : Nat} {K : Nat → aK} (hS : pS K) {p1 : Int32} {p2 : Int32} {p3 : Int32} {M : pMem} {out : Option Value × aH} (H : aM X F d 42 [.ref 188, .int p1, .int p2, .int p3] (pH K M) = some out) : out = (some <| Value.int (f_42 p1 p2 p3), pH K M) := by
  obtain ⟨d', g0, _, H⟩ := pEnt (n := 4) (ls := [.ref 188, .int p1, .int p2, .int p3]) (mcb_42 rfl) (by decide +kernel) rfl H
  unfold f_42
  replace H := pRun (ls' := [.ref 188, .int p1, .int p2, .int p3]) (st' := [.int p2, .int p1]) 2 rfl H
  rcases pIfc (n1 := 3) rfl (mcb_42 rfl) (mcb_42 rfl) H with ⟨g1, g0, _, H⟩ | ⟨g1, g0, _, H⟩
  · rw [if_pos (show p1 < p2 from g1)]
    replace H := pRun (ls' := [.ref 188, .int p1, .int p2, .int p3]) (st' := [.int (kI 0)]) 1 rfl H
    obtain ⟨g0, _, H⟩ := pFall (mcb_42 rfl) H
    exact pRetI H
  · rw [if_neg (show ¬ (p1 < p2) from g1)]
    replace H := pRun (ls' := [.ref 188, .int p1, .int p2, .int p3]) (st' := [.int p3, .int p1]) 2 rfl H
    rcases pIfc (n1 := 3) rfl (mcb_42 rfl) (mcb_42 rfl) H with ⟨g2, g0, _, H⟩ | ⟨g2, g0, _, H⟩
    · rw [if_pos (show p3 < p1 from g2)]
      replace H := pRun (ls' := [.ref 188, .int p1, .int p2, .int p3]) (st' := [.int (kI 0)]) 1 rfl H
      obtain ⟨g0, _, H⟩ := pFall (mcb_42 rfl) H
      exact pRetI H
    · rw [if_neg (show ¬ (p3 < p1) from g2)]
      replace H := pRun (ls' := [.ref 188, .int p1, .int p2, .int p3]) (st' := [.int (kI 1)]) 1 rfl H
      obtain ⟨g0, _, H⟩ := pGo (n1 := 4) rfl (mcb_42 rfl) H
      exact pRetI H
/-- TwoCampsModel.floor(II)I -/
def f_43 (p1 : Int32) (p2 : Int32) : Int32 := if ¬ p2 = 0 then if (pRem p1 p2) = 0 then (p1 / p2) else if 0 ≤ p1 then (p1 / p2) else ((p1 / p2) - (kI 1)) else (kI 0)
theorem f_43_ok {X : aX} {F d : Nat} {K : Nat → aK} (hS : pS K) {p1 : Int32} {p2 : Int32} {M : pMem} {out : Option Value × aH} (H : aM X F d 43 [.ref 188, .int p1, .int p2] (pH K M) = some out) : out = (some <| Value.int (f_43 p1 p2), pH K M) := by
  obtain ⟨d', g0, _, H⟩ := pEnt (n := 4) (ls := [.ref 188, .int p1, .int p2, aD]) (mcb_43 rfl) (by decide +kernel) rfl H
  unfold f_43
  replace H := pRun (ls' := [.ref 188, .int p1, .int p2, aD]) (st' := [.int p2]) 1 rfl H
  rcases pIf0 (n1 := 2) rfl (mcb_43 rfl) (mcb_43 rfl) H with ⟨g1, g0, _, H⟩ | ⟨g1, g0, _, H⟩
  · rw [if_pos (show ¬ p2 = 0 from g1)]
    replace H := pRun (ls' := [.ref 188, .int p1, .int p2, aD]) (st' := [.int p2, .int p1]) 2 rfl H
    obtain ⟨g2, H⟩ := pDiv H
    replace H := pRun (ls' := [.ref 188, .int p1, .int p2, .int (p1 / p2)]) (st' := [.int p2, .int p1]) 3 rfl H
    obtain ⟨g3, H⟩ := pRmd H
    rcases pIf0 (n1 := 5) rfl (mcb_43 rfl) (mcb_43 rfl) H with ⟨g4, g0, _, H⟩ | ⟨g4, g0, _, H⟩
    · rw [if_pos (show (pRem p1 p2) = 0 from g4)]
      replace H := pRun (ls' := [.ref 188, .int p1, .int p2, .int (p1 / p2)]) (st' := [.int (p1 / p2)]) 1 rfl H
      obtain ⟨g0, _, H⟩ := pFall (mcb_43 rfl) H
      exact pRetI H
    · rw [if_neg (show ¬ ((pRem p1 p2) = 0) from g4)]
      replace H := pRun (ls' := [.ref 188, .int p1, .int p2, .int (p1 / p2)]) (st' := [.int p1]) 1 rfl H
      rcases pIf0 (n1 := 5) rfl (mcb_43 rfl) (mcb_43 rfl) H with ⟨g5, g0, _, H⟩ | ⟨g5, g0, _, H⟩
      · rw [if_pos (show 0 ≤ p1 from g5)]
        replace H := pRun (ls' := [.ref 188, .int p1, .int p2, .int (p1 / p2)]) (st' := [.int (p1 / p2)]) 1 rfl H
        obtain ⟨g0, _, H⟩ := pFall (mcb_43 rfl) H
        exact pRetI H
      · rw [if_neg (show ¬ (0 ≤ p1) from g5)]
        replace H := pRun (ls' := [.ref 188, .int p1, .int p2, .int (p1 / p2)]) (st' := [.int ((p1 / p2) - (kI 1))]) 3 rfl H
        obtain ⟨g0, _, H⟩ := pGo (n1 := 6) rfl (mcb_43 rfl) H
        exact pRetI H
  · rw [if_neg (show ¬ (¬ p2 = 0) from g1)]
    replace H := pRun (ls' := [.ref 188, .int p1, .int p2, aD]) (st' := [.int (kI 0)]) 1 rfl H
    exact pRetI H
/-- TwoCampsModel.size(I)I -/
def f_44 (p1 : Int32) : Int32 := if 0 ≤ p1 then p1 else (-p1)
theorem f_44_ok {X : aX} {F d : Nat} {K : Nat → aK} (hS : pS K) {p1 : Int32} {M : pMem} {out : Option Value × aH} (H : aM X F d 44 [.ref 188, .int p1] (pH K M) = some out) : out = (some <| Value.int (f_44 p1), pH K M) := by
  obtain ⟨d', g0, _, H⟩ := pEnt (n := 2) (ls := [.ref 188, .int p1]) (mcb_44 rfl) (by decide +kernel) rfl H
  unfold f_44
  replace H := pRun (ls' := [.ref 188, .int p1]) (st' := [.int p1]) 1 rfl H
  rcases pIf0 (n1 := 2) rfl (mcb_44 rfl) (mcb_44 rfl) H with ⟨g1, g0, _, H⟩ | ⟨g1, g0, _, H⟩
  · rw [if_pos (show 0 ≤ p1 from g1)]
    replace H := pRun (ls' := [.ref 188, .int p1]) (st' := [.int p1]) 1 rfl H
    obtain ⟨g0, _, H⟩ := pFall (mcb_44 rfl) H
    exact pRetI H
  · rw [if_neg (show ¬ (0 ≤ p1) from g1)]
    replace H := pRun (ls' := [.ref 188, .int p1]) (st' := [.int (-p1)]) 2 rfl H
    obtain ⟨g0, _, H⟩ := pGo (n1 := 3) rfl (mcb_44 rfl) H
    exact pRetI H
/-- TwoCampsModel.isBoy(I)Z -/
def f_45 (p1 : Int32) (M : pMem) : Int32 := if p1 < 0 then (kI 0) else if (M 188 2) ≤ p1 then (kI 0) else (kI 1)
theorem f_45_ok {X : aX} {F d : Nat} {K : Nat → aK} (hS : pS K) {p1 : Int32} {M : pMem} {out : Option Value × aH} (H : aM X F d 45 [.ref 188, .int p1] (pH K M) = some out) : out = (some <| Value.int (f_45 p1 M), pH K M) := by
  obtain ⟨d', g0, _, H⟩ := pEnt (n := 2) (ls := [.ref 188, .int p1]) (mcb_45 rfl) (by decide +kernel) rfl H
  unfold f_45
  replace H := pRun (ls' := [.ref 188, .int p1]) (st' := [.int p1]) 1 rfl H
  rcases pIf0 (n1 := 3) rfl (mcb_45 rfl) (mcb_45 rfl) H with ⟨g1, g0, _, H⟩ | ⟨g1, g0, _, H⟩
  · rw [if_pos (show p1 < 0 from g1)]
    replace H := pRun (ls' := [.ref 188, .int p1]) (st' := [.int (kI 0)]) 1 rfl H
    obtain ⟨g0, _, H⟩ := pFall (mcb_45 rfl) H
    exact pRetI H
  · rw [if_neg (show ¬ (p1 < 0) from g1)]
    replace H := pRun (ls' := [.ref 188, .int p1]) (st' := [.ref 188, .int p1]) 2 rfl H
    replace H := pGetN (v := M 188 2) rfl (by decide) H
    rcases pIfc (n1 := 3) rfl (mcb_45 rfl) (mcb_45 rfl) H with ⟨g2, g0, _, H⟩ | ⟨g2, g0, _, H⟩
    · rw [if_pos (show (M 188 2) ≤ p1 from g2)]
      replace H := pRun (ls' := [.ref 188, .int p1]) (st' := [.int (kI 0)]) 1 rfl H
      obtain ⟨g0, _, H⟩ := pFall (mcb_45 rfl) H
      exact pRetI H
    · rw [if_neg (show ¬ ((M 188 2) ≤ p1) from g2)]
      replace H := pRun (ls' := [.ref 188, .int p1]) (st' := [.int (kI 1)]) 1 rfl H
      obtain ⟨g0, _, H⟩ := pGo (n1 := 4) rfl (mcb_45 rfl) H
      exact pRetI H
/-- TwoCampsModel.isLot(I)Z -/
def f_46 (p1 : Int32) : Int32 := if p1 = 0 then (kI 1) else if ¬ p1 = (kI 1) then (kI 0) else (kI 1)
theorem f_46_ok {X : aX} {F d : Nat} {K : Nat → aK} (hS : pS K) {p1 : Int32} {M : pMem} {out : Option Value × aH} (H : aM X F d 46 [.ref 188, .int p1] (pH K M) = some out) : out = (some <| Value.int (f_46 p1), pH K M) := by
  obtain ⟨d', g0, _, H⟩ := pEnt (n := 2) (ls := [.ref 188, .int p1]) (mcb_46 rfl) (by decide +kernel) rfl H
  unfold f_46
  replace H := pRun (ls' := [.ref 188, .int p1]) (st' := [.int p1]) 1 rfl H
  rcases pIf0 (n1 := 2) rfl (mcb_46 rfl) (mcb_46 rfl) H with ⟨g1, g0, _, H⟩ | ⟨g1, g0, _, H⟩
  · rw [if_pos (show p1 = 0 from g1)]
    replace H := pRun (ls' := [.ref 188, .int p1]) (st' := [.int (kI 1)]) 1 rfl H
    obtain ⟨g0, _, H⟩ := pGo (n1 := 4) rfl (mcb_46 rfl) H
    exact pRetI H
  · rw [if_neg (show ¬ (p1 = 0) from g1)]
    replace H := pRun (ls' := [.ref 188, .int p1]) (st' := [.int (kI 1), .int p1]) 2 rfl H
    rcases pIfc (n1 := 3) rfl (mcb_46 rfl) (mcb_46 rfl) H with ⟨g2, g0, _, H⟩ | ⟨g2, g0, _, H⟩
    · rw [if_pos (show ¬ p1 = (kI 1) from g2)]
      replace H := pRun (ls' := [.ref 188, .int p1]) (st' := [.int (kI 0)]) 1 rfl H
      obtain ⟨g0, _, H⟩ := pFall (mcb_46 rfl) H
      exact pRetI H
    · rw [if_neg (show ¬ (¬ p1 = (kI 1)) from g2)]
      replace H := pRun (ls' := [.ref 188, .int p1]) (st' := [.int (kI 1)]) 1 rfl H
      obtain ⟨g0, _, H⟩ := pGo (n1 := 4) rfl (mcb_46 rfl) H
      exact pRetI H
/-- TwoCampsModel.isLaw(I)Z -/
def f_109 (p1 : Int32) : Int32 := (f_42 p1 (kI 0) (kI 3))
theorem f_109_ok {X : aX} {F d : Nat} {K : Nat → aK} (hS : pS K) {p1 : Int32} {M : pMem} {out : Option Value × aH} (H : aM X F d 109 [.ref 188, .int p1] (pH K M) = some out) : out = (some <| Value.int (f_109 p1), pH K M) := by
  obtain ⟨d', g0, _, H⟩ := pEnt (n := 2) (ls := [.ref 188, .int p1]) (mcb_109 rfl) (by decide +kernel) rfl H
  unfold f_109
  replace H := pRun (ls' := [.ref 188, .int p1]) (st' := [.int (kI 3), .int (kI 0), .int p1, .ref 188]) 4 rfl H
  obtain ⟨rv, h1, hc, H⟩ := pCalV 42 3 188 (as := [.int p1, .int (kI 0), .int (kI 3)]) (rest := []) rfl (by decide) (by decide +kernel) rfl rfl H
  replace H := pUseF (f_42_ok hS hc) H
  exact pRetI H
/-- TwoCampsModel.isLetter(I)Z -/
def f_61 (p1 : Int32) : Int32 := if ¬ (f_42 p1 (kI 97) (kI 122)) = 0 then (kI 1) else if (f_42 p1 (kI 65) (kI 90)) = 0 then (kI 0) else (kI 1)
theorem f_61_ok {X : aX} {F d : Nat} {K : Nat → aK} (hS : pS K) {p1 : Int32} {M : pMem} {out : Option Value × aH} (H : aM X F d 61 [.ref 188, .int p1] (pH K M) = some out) : out = (some <| Value.int (f_61 p1), pH K M) := by
  obtain ⟨d', g0, _, H⟩ := pEnt (n := 2) (ls := [.ref 188, .int p1]) (mcb_61 rfl) (by decide +kernel) rfl H
  unfold f_61
  replace H := pRun (ls' := [.ref 188, .int p1]) (st' := [.int (kI 122), .int (kI 97), .int p1, .ref 188]) 4 rfl H
  obtain ⟨rv, h1, hc, H⟩ := pCalV 42 3 188 (as := [.int p1, .int (kI 97), .int (kI 122)]) (rest := []) rfl (by decide) (by decide +kernel) rfl rfl H
  replace H := pUseF (f_42_ok hS hc) H
  rcases pIf0 (n1 := 2) rfl (mcb_61 rfl) (mcb_61 rfl) H with ⟨g1, g0, _, H⟩ | ⟨g1, g0, _, H⟩
  · rw [if_pos (show ¬ (f_42 p1 (kI 97) (kI 122)) = 0 from g1)]
    replace H := pRun (ls' := [.ref 188, .int p1]) (st' := [.int (kI 1)]) 1 rfl H
    obtain ⟨g0, _, H⟩ := pGo (n1 := 4) rfl (mcb_61 rfl) H
    exact pRetI H
  · rw [if_neg (show ¬ (¬ (f_42 p1 (kI 97) (kI 122)) = 0) from g1)]
    replace H := pRun (ls' := [.ref 188, .int p1]) (st' := [.int (kI 90), .int (kI 65), .int p1, .ref 188]) 4 rfl H
    obtain ⟨rv, h1, hc, H⟩ := pCalV 42 3 188 (as := [.int p1, .int (kI 65), .int (kI 90)]) (rest := []) rfl (by decide) (by decide +kernel) rfl rfl H
    replace H := pUseF (f_42_ok hS hc) H
    rcases pIf0 (n1 := 3) rfl (mcb_61 rfl) (mcb_61 rfl) H with ⟨g2, g0, _, H⟩ | ⟨g2, g0, _, H⟩
    · rw [if_pos (show (f_42 p1 (kI 65) (kI 90)) = 0 from g2)]
      replace H := pRun (ls' := [.ref 188, .int p1]) (st' := [.int (kI 0)]) 1 rfl H
      obtain ⟨g0, _, H⟩ := pFall (mcb_61 rfl) H
      exact pRetI H
    · rw [if_neg (show ¬ ((f_42 p1 (kI 65) (kI 90)) = 0) from g2)]
      replace H := pRun (ls' := [.ref 188, .int p1]) (st' := [.int (kI 1)]) 1 rfl H
      obtain ⟨g0, _, H⟩ := pGo (n1 := 4) rfl (mcb_61 rfl) H
      exact pRetI H
/-- TwoCampsModel.isDigit(I)Z -/
def f_62 (p1 : Int32) : Int32 := (f_42 p1 (kI 48) (kI 57))
theorem f_62_ok {X : aX} {F d : Nat} {K : Nat → aK} (hS : pS K) {p1 : Int32} {M : pMem} {out : Option Value × aH} (H : aM X F d 62 [.ref 188, .int p1] (pH K M) = some out) : out = (some <| Value.int (f_62 p1), pH K M) := by
  obtain ⟨d', g0, _, H⟩ := pEnt (n := 2) (ls := [.ref 188, .int p1]) (mcb_62 rfl) (by decide +kernel) rfl H
  unfold f_62
  replace H := pRun (ls' := [.ref 188, .int p1]) (st' := [.int (kI 57), .int (kI 48), .int p1, .ref 188]) 4 rfl H
  obtain ⟨rv, h1, hc, H⟩ := pCalV 42 3 188 (as := [.int p1, .int (kI 48), .int (kI 57)]) (rest := []) rfl (by decide) (by decide +kernel) rfl rfl H
  replace H := pUseF (f_42_ok hS hc) H
  exact pRetI H
/-- TwoCampsModel.isMarkSign(I)Z -/
def f_63 (p1 : Int32) : Int32 := if p1 = (kI 59) then (kI 1) else if p1 = (kI 43) then (kI 1) else if p1 = (kI 45) then (kI 1) else if p1 = (kI 42) then (kI 1) else if p1 = (kI 47) then (kI 1) else if p1 = (kI 40) then (kI 1) else if p1 = (kI 41) then (kI 1) else if p1 = (kI 60) then (kI 1) else if p1 = (kI 61) then (kI 1) else if ¬ p1 = (kI 62) then (kI 0) else (kI 1)
theorem f_63_ok {X : aX} {F d : Nat} {K : Nat → aK} (hS : pS K) {p1 : Int32} {M : pMem} {out : Option Value × aH} (H : aM X F d 63 [.ref 188, .int p1] (pH K M) = some out) : out = (some <| Value.int (f_63 p1), pH K M) := by
  obtain ⟨d', g0, _, H⟩ := pEnt (n := 2) (ls := [.ref 188, .int p1]) (mcb_63 rfl) (by decide +kernel) rfl H
  unfold f_63
  replace H := pRun (ls' := [.ref 188, .int p1]) (st' := [.int (kI 59), .int p1]) 2 rfl H
  rcases pIfc (n1 := 10) rfl (mcb_63 rfl) (mcb_63 rfl) H with ⟨g1, g0, _, H⟩ | ⟨g1, g0, _, H⟩
  · rw [if_pos (show p1 = (kI 59) from g1)]
    replace H := pRun (ls' := [.ref 188, .int p1]) (st' := [.int (kI 1)]) 1 rfl H
    obtain ⟨g0, _, H⟩ := pGo (n1 := 12) rfl (mcb_63 rfl) H
    exact pRetI H
  · rw [if_neg (show ¬ (p1 = (kI 59)) from g1)]
    replace H := pRun (ls' := [.ref 188, .int p1]) (st' := [.int (kI 43), .int p1]) 2 rfl H
    rcases pIfc (n1 := 10) rfl (mcb_63 rfl) (mcb_63 rfl) H with ⟨g2, g0, _, H⟩ | ⟨g2, g0, _, H⟩
    · rw [if_pos (show p1 = (kI 43) from g2)]
      replace H := pRun (ls' := [.ref 188, .int p1]) (st' := [.int (kI 1)]) 1 rfl H
      obtain ⟨g0, _, H⟩ := pGo (n1 := 12) rfl (mcb_63 rfl) H
      exact pRetI H
    · rw [if_neg (show ¬ (p1 = (kI 43)) from g2)]
      replace H := pRun (ls' := [.ref 188, .int p1]) (st' := [.int (kI 45), .int p1]) 2 rfl H
      rcases pIfc (n1 := 10) rfl (mcb_63 rfl) (mcb_63 rfl) H with ⟨g3, g0, _, H⟩ | ⟨g3, g0, _, H⟩
      · rw [if_pos (show p1 = (kI 45) from g3)]
        replace H := pRun (ls' := [.ref 188, .int p1]) (st' := [.int (kI 1)]) 1 rfl H
        obtain ⟨g0, _, H⟩ := pGo (n1 := 12) rfl (mcb_63 rfl) H
        exact pRetI H
      · rw [if_neg (show ¬ (p1 = (kI 45)) from g3)]
        replace H := pRun (ls' := [.ref 188, .int p1]) (st' := [.int (kI 42), .int p1]) 2 rfl H
        rcases pIfc (n1 := 10) rfl (mcb_63 rfl) (mcb_63 rfl) H with ⟨g4, g0, _, H⟩ | ⟨g4, g0, _, H⟩
        · rw [if_pos (show p1 = (kI 42) from g4)]
          replace H := pRun (ls' := [.ref 188, .int p1]) (st' := [.int (kI 1)]) 1 rfl H
          obtain ⟨g0, _, H⟩ := pGo (n1 := 12) rfl (mcb_63 rfl) H
          exact pRetI H
        · rw [if_neg (show ¬ (p1 = (kI 42)) from g4)]
          replace H := pRun (ls' := [.ref 188, .int p1]) (st' := [.int (kI 47), .int p1]) 2 rfl H
          rcases pIfc (n1 := 10) rfl (mcb_63 rfl) (mcb_63 rfl) H with ⟨g5, g0, _, H⟩ | ⟨g5, g0, _, H⟩
          · rw [if_pos (show p1 = (kI 47) from g5)]
            replace H := pRun (ls' := [.ref 188, .int p1]) (st' := [.int (kI 1)]) 1 rfl H
            obtain ⟨g0, _, H⟩ := pGo (n1 := 12) rfl (mcb_63 rfl) H
            exact pRetI H
          · rw [if_neg (show ¬ (p1 = (kI 47)) from g5)]
            replace H := pRun (ls' := [.ref 188, .int p1]) (st' := [.int (kI 40), .int p1]) 2 rfl H
            rcases pIfc (n1 := 10) rfl (mcb_63 rfl) (mcb_63 rfl) H with ⟨g6, g0, _, H⟩ | ⟨g6, g0, _, H⟩
            · rw [if_pos (show p1 = (kI 40) from g6)]
              replace H := pRun (ls' := [.ref 188, .int p1]) (st' := [.int (kI 1)]) 1 rfl H
              obtain ⟨g0, _, H⟩ := pGo (n1 := 12) rfl (mcb_63 rfl) H
              exact pRetI H
            · rw [if_neg (show ¬ (p1 = (kI 40)) from g6)]
              replace H := pRun (ls' := [.ref 188, .int p1]) (st' := [.int (kI 41), .int p1]) 2 rfl H
              rcases pIfc (n1 := 10) rfl (mcb_63 rfl) (mcb_63 rfl) H with ⟨g7, g0, _, H⟩ | ⟨g7, g0, _, H⟩
              · rw [if_pos (show p1 = (kI 41) from g7)]
                replace H := pRun (ls' := [.ref 188, .int p1]) (st' := [.int (kI 1)]) 1 rfl H
                obtain ⟨g0, _, H⟩ := pGo (n1 := 12) rfl (mcb_63 rfl) H
                exact pRetI H
              · rw [if_neg (show ¬ (p1 = (kI 41)) from g7)]
                replace H := pRun (ls' := [.ref 188, .int p1]) (st' := [.int (kI 60), .int p1]) 2 rfl H
                rcases pIfc (n1 := 10) rfl (mcb_63 rfl) (mcb_63 rfl) H with ⟨g8, g0, _, H⟩ | ⟨g8, g0, _, H⟩
                · rw [if_pos (show p1 = (kI 60) from g8)]
                  replace H := pRun (ls' := [.ref 188, .int p1]) (st' := [.int (kI 1)]) 1 rfl H
                  obtain ⟨g0, _, H⟩ := pGo (n1 := 12) rfl (mcb_63 rfl) H
                  exact pRetI H
                · rw [if_neg (show ¬ (p1 = (kI 60)) from g8)]
                  replace H := pRun (ls' := [.ref 188, .int p1]) (st' := [.int (kI 61), .int p1]) 2 rfl H
                  rcases pIfc (n1 := 10) rfl (mcb_63 rfl) (mcb_63 rfl) H with ⟨g9, g0, _, H⟩ | ⟨g9, g0, _, H⟩
                  · rw [if_pos (show p1 = (kI 61) from g9)]
                    replace H := pRun (ls' := [.ref 188, .int p1]) (st' := [.int (kI 1)]) 1 rfl H
                    obtain ⟨g0, _, H⟩ := pGo (n1 := 12) rfl (mcb_63 rfl) H
                    exact pRetI H
                  · rw [if_neg (show ¬ (p1 = (kI 61)) from g9)]
                    replace H := pRun (ls' := [.ref 188, .int p1]) (st' := [.int (kI 62), .int p1]) 2 rfl H
                    rcases pIfc (n1 := 11) rfl (mcb_63 rfl) (mcb_63 rfl) H with ⟨g10, g0, _, H⟩ | ⟨g10, g0, _, H⟩
                    · rw [if_pos (show ¬ p1 = (kI 62) from g10)]
                      replace H := pRun (ls' := [.ref 188, .int p1]) (st' := [.int (kI 0)]) 1 rfl H
                      obtain ⟨g0, _, H⟩ := pFall (mcb_63 rfl) H
                      exact pRetI H
                    · rw [if_neg (show ¬ (¬ p1 = (kI 62)) from g10)]
                      replace H := pRun (ls' := [.ref 188, .int p1]) (st' := [.int (kI 1)]) 1 rfl H
                      obtain ⟨g0, _, H⟩ := pGo (n1 := 12) rfl (mcb_63 rfl) H
                      exact pRetI H
/-- TwoCampsModel.raw(I)I -/
def f_60 (p1 : Int32) (M : pMem) : Int32 := if (M 188 24) ≤ p1 then (kI (-1)) else (M 202 (ix p1))
theorem f_60_ok {X : aX} {F d : Nat} {K : Nat → aK} (hS : pS K) {p1 : Int32} {M : pMem} {out : Option Value × aH} (H : aM X F d 60 [.ref 188, .int p1] (pH K M) = some out) : out = (some <| Value.int (f_60 p1 M), pH K M) := by
  obtain ⟨d', g0, _, H⟩ := pEnt (n := 2) (ls := [.ref 188, .int p1]) (mcb_60 rfl) (by decide +kernel) rfl H
  unfold f_60
  replace H := pRun (ls' := [.ref 188, .int p1]) (st' := [.ref 188, .int p1]) 2 rfl H
  replace H := pGetN (v := M 188 24) rfl (by decide) H
  rcases pIfc (n1 := 2) rfl (mcb_60 rfl) (mcb_60 rfl) H with ⟨g1, g0, _, H⟩ | ⟨g1, g0, _, H⟩
  · rw [if_pos (show (M 188 24) ≤ p1 from g1)]
    replace H := pRun (ls' := [.ref 188, .int p1]) (st' := [.int (kI (-1))]) 1 rfl H
    obtain ⟨g0, _, H⟩ := pFall (mcb_60 rfl) H
    exact pRetI H
  · rw [if_neg (show ¬ ((M 188 24) ≤ p1) from g1)]
    replace H := pRun (ls' := [.ref 188, .int p1]) (st' := [.ref 188]) 1 rfl H
    replace H := pGetR (r := 202) (pRf hS (by decide +kernel)) rfl H
    replace H := pRun (ls' := [.ref 188, .int p1]) (st' := [.int p1, .ref 202]) 1 rfl H
    obtain ⟨g2, H⟩ := pIld (n := 500) (pLt (show pCa 202 500 = true by decide +kernel)) (pLn hS (show pCa 202 500 = true by decide +kernel)) H
    obtain ⟨g0, _, H⟩ := pGo (n1 := 3) rfl (mcb_60 rfl) H
    exact pRetI H
/-- TwoCampsModel.isWord(I)Z -/
def f_67 (p1 : Int32) (M : pMem) : Int32 := if ¬ (M 188 27) = (kI 2) then (kI 0) else if ¬ (M 188 28) = p1 then (kI 0) else (kI 1)
theorem f_67_ok {X : aX} {F d : Nat} {K : Nat → aK} (hS : pS K) {p1 : Int32} {M : pMem} {out : Option Value × aH} (H : aM X F d 67 [.ref 188, .int p1] (pH K M) = some out) : out = (some <| Value.int (f_67 p1 M), pH K M) := by
  obtain ⟨d', g0, _, H⟩ := pEnt (n := 2) (ls := [.ref 188, .int p1]) (mcb_67 rfl) (by decide +kernel) rfl H
  unfold f_67
  replace H := pRun (ls' := [.ref 188, .int p1]) (st' := [.ref 188]) 1 rfl H
  replace H := pGetN (v := M 188 27) rfl (by decide) H
  replace H := pRun (ls' := [.ref 188, .int p1]) (st' := [.int (kI 2), .int (M 188 27)]) 1 rfl H
  rcases pIfc (n1 := 3) rfl (mcb_67 rfl) (mcb_67 rfl) H with ⟨g1, g0, _, H⟩ | ⟨g1, g0, _, H⟩
  · rw [if_pos (show ¬ (M 188 27) = (kI 2) from g1)]
    replace H := pRun (ls' := [.ref 188, .int p1]) (st' := [.int (kI 0)]) 1 rfl H
    obtain ⟨g0, _, H⟩ := pFall (mcb_67 rfl) H
    exact pRetI H
  · rw [if_neg (show ¬ (¬ (M 188 27) = (kI 2)) from g1)]
    replace H := pRun (ls' := [.ref 188, .int p1]) (st' := [.ref 188]) 1 rfl H
    replace H := pGetN (v := M 188 28) rfl (by decide) H
    replace H := pRun (ls' := [.ref 188, .int p1]) (st' := [.int p1, .int (M 188 28)]) 1 rfl H
    rcases pIfc (n1 := 3) rfl (mcb_67 rfl) (mcb_67 rfl) H with ⟨g2, g0, _, H⟩ | ⟨g2, g0, _, H⟩
    · rw [if_pos (show ¬ (M 188 28) = p1 from g2)]
      replace H := pRun (ls' := [.ref 188, .int p1]) (st' := [.int (kI 0)]) 1 rfl H
      obtain ⟨g0, _, H⟩ := pFall (mcb_67 rfl) H
      exact pRetI H
    · rw [if_neg (show ¬ (¬ (M 188 28) = p1) from g2)]
      replace H := pRun (ls' := [.ref 188, .int p1]) (st' := [.int (kI 1)]) 1 rfl H
      obtain ⟨g0, _, H⟩ := pGo (n1 := 4) rfl (mcb_67 rfl) H
      exact pRetI H
/-- TwoCampsModel.isSign(I)Z -/
def f_68 (p1 : Int32) (M : pMem) : Int32 := if ¬ (M 188 27) = (kI 4) then (kI 0) else if ¬ (M 188 28) = p1 then (kI 0) else (kI 1)
theorem f_68_ok {X : aX} {F d : Nat} {K : Nat → aK} (hS : pS K) {p1 : Int32} {M : pMem} {out : Option Value × aH} (H : aM X F d 68 [.ref 188, .int p1] (pH K M) = some out) : out = (some <| Value.int (f_68 p1 M), pH K M) := by
  obtain ⟨d', g0, _, H⟩ := pEnt (n := 2) (ls := [.ref 188, .int p1]) (mcb_68 rfl) (by decide +kernel) rfl H
  unfold f_68
  replace H := pRun (ls' := [.ref 188, .int p1]) (st' := [.ref 188]) 1 rfl H
  replace H := pGetN (v := M 188 27) rfl (by decide) H
  replace H := pRun (ls' := [.ref 188, .int p1]) (st' := [.int (kI 4), .int (M 188 27)]) 1 rfl H
  rcases pIfc (n1 := 3) rfl (mcb_68 rfl) (mcb_68 rfl) H with ⟨g1, g0, _, H⟩ | ⟨g1, g0, _, H⟩
  · rw [if_pos (show ¬ (M 188 27) = (kI 4) from g1)]
    replace H := pRun (ls' := [.ref 188, .int p1]) (st' := [.int (kI 0)]) 1 rfl H
    obtain ⟨g0, _, H⟩ := pFall (mcb_68 rfl) H
    exact pRetI H
  · rw [if_neg (show ¬ (¬ (M 188 27) = (kI 4)) from g1)]
    replace H := pRun (ls' := [.ref 188, .int p1]) (st' := [.ref 188]) 1 rfl H
    replace H := pGetN (v := M 188 28) rfl (by decide) H
    replace H := pRun (ls' := [.ref 188, .int p1]) (st' := [.int p1, .int (M 188 28)]) 1 rfl H
    rcases pIfc (n1 := 3) rfl (mcb_68 rfl) (mcb_68 rfl) H with ⟨g2, g0, _, H⟩ | ⟨g2, g0, _, H⟩
    · rw [if_pos (show ¬ (M 188 28) = p1 from g2)]
      replace H := pRun (ls' := [.ref 188, .int p1]) (st' := [.int (kI 0)]) 1 rfl H
      obtain ⟨g0, _, H⟩ := pFall (mcb_68 rfl) H
      exact pRetI H
    · rw [if_neg (show ¬ (¬ (M 188 28) = p1) from g2)]
      replace H := pRun (ls' := [.ref 188, .int p1]) (st' := [.int (kI 1)]) 1 rfl H
      obtain ⟨g0, _, H⟩ := pGo (n1 := 4) rfl (mcb_68 rfl) H
      exact pRetI H
/-- TwoCampsModel.isHere(I)Z -/
def f_125 (p1 : Int32) (M : pMem) : Int32 := if (f_45 p1 M) = 0 then (kI 0) else if ¬ (M 191 (ix p1)) = (kI 1) then (kI 0) else (kI 1)
theorem f_125_ok {X : aX} {F d : Nat} {K : Nat → aK} (hS : pS K) {p1 : Int32} {M : pMem} {out : Option Value × aH} (H : aM X F d 125 [.ref 188, .int p1] (pH K M) = some out) : out = (some <| Value.int (f_125 p1 M), pH K M) := by
  obtain ⟨d', g0, _, H⟩ := pEnt (n := 2) (ls := [.ref 188, .int p1]) (mcb_125 rfl) (by decide +kernel) rfl H
  unfold f_125
  replace H := pRun (ls' := [.ref 188, .int p1]) (st' := [.int p1, .ref 188]) 2 rfl H
  obtain ⟨rv, h1, hc, H⟩ := pCalV 45 1 188 (as := [.int p1]) (rest := []) rfl (by decide) (by decide +kernel) rfl rfl H
  replace H := pUseF (f_45_ok hS hc) H
  rcases pIf0 (n1 := 3) rfl (mcb_125 rfl) (mcb_125 rfl) H with ⟨g1, g0, _, H⟩ | ⟨g1, g0, _, H⟩
  · rw [if_pos (show (f_45 p1 M) = 0 from g1)]
    replace H := pRun (ls' := [.ref 188, .int p1]) (st' := [.int (kI 0)]) 1 rfl H
    obtain ⟨g0, _, H⟩ := pFall (mcb_125 rfl) H
    exact pRetI H
  · rw [if_neg (show ¬ ((f_45 p1 M) = 0) from g1)]
    replace H := pRun (ls' := [.ref 188, .int p1]) (st' := [.ref 188]) 1 rfl H
    replace H := pGetR (r := 191) (pRf hS (by decide +kernel)) rfl H
    replace H := pRun (ls' := [.ref 188, .int p1]) (st' := [.int p1, .ref 191]) 1 rfl H
    obtain ⟨g2, H⟩ := pIld (n := 24) (pLt (show pCa 191 24 = true by decide +kernel)) (pLn hS (show pCa 191 24 = true by decide +kernel)) H
    replace H := pRun (ls' := [.ref 188, .int p1]) (st' := [.int (kI 1), .int (M 191 (ix p1))]) 1 rfl H
    rcases pIfc (n1 := 3) rfl (mcb_125 rfl) (mcb_125 rfl) H with ⟨g3, g0, _, H⟩ | ⟨g3, g0, _, H⟩
    · rw [if_pos (show ¬ (M 191 (ix p1)) = (kI 1) from g3)]
      replace H := pRun (ls' := [.ref 188, .int p1]) (st' := [.int (kI 0)]) 1 rfl H
      obtain ⟨g0, _, H⟩ := pFall (mcb_125 rfl) H
      exact pRetI H
    · rw [if_neg (show ¬ (¬ (M 191 (ix p1)) = (kI 1)) from g3)]
      replace H := pRun (ls' := [.ref 188, .int p1]) (st' := [.int (kI 1)]) 1 rfl H
      obtain ⟨g0, _, H⟩ := pGo (n1 := 4) rfl (mcb_125 rfl) H
      exact pRetI H
/-- TwoCampsModel.fightersNow()I -/
def f_102 (M : pMem) : Int32 := (((M 188 54) &&& (kI 1)) + ((M 188 54) >>> ((kI 1) &&& 31)))
theorem f_102_ok {X : aX} {F d : Nat} {K : Nat → aK} (hS : pS K) {M : pMem} {out : Option Value × aH} (H : aM X F d 102 [.ref 188] (pH K M) = some out) : out = (some <| Value.int (f_102 M), pH K M) := by
  obtain ⟨d', g0, _, H⟩ := pEnt (n := 1) (ls := [.ref 188]) (mcb_102 rfl) (by decide +kernel) rfl H
  unfold f_102
  replace H := pRun (ls' := [.ref 188]) (st' := [.ref 188]) 1 rfl H
  replace H := pGetN (v := M 188 54) rfl (by decide) H
  replace H := pRun (ls' := [.ref 188]) (st' := [.ref 188, .int ((M 188 54) &&& (kI 1))]) 3 rfl H
  replace H := pGetN (v := M 188 54) rfl (by decide) H
  replace H := pRun (ls' := [.ref 188]) (st' := [.int (((M 188 54) &&& (kI 1)) + ((M 188 54) >>> ((kI 1) &&& 31)))]) 3 rfl H
  exact pRetI H
/-- TwoCampsModel.boy(II)I -/
def D_47 (p1 : Int32) (p2 : Int32) (M : pMem) : pT Int32 := tPut (aPut M 188 0 (kI 0)) fun M1 => tIf ((f_46 p1) = 0) (tRet (kI (-1)) M1) (tIf ((f_42 p2 (kI 0) (kI 9)) = 0) (tRet (kI (-1)) M1) (tIf ((M1 188 2) = (kI 24)) (tRet (kI (-1)) M1) (tIf ((M1 188 3) ≤ 0) (tGd (pIn (M1 188 2) 24) <| tPut (aPut M1 189 (ix (M1 188 2)) p1) fun M2 => tGd (pIn (M2 188 2) 24) <| tPut (aPut M2 190 (ix (M2 188 2)) p2) fun M3 => tGd (pIn (M3 188 2) 24) <| tPut (aPut M3 191 (ix (M3 188 2)) (kI 1)) fun M4 => tGd (pIn (M4 188 2) 24) <| tPut (aPut M4 192 (ix (M4 188 2)) (kI 1)) fun M5 => tPut (aPut M5 188 2 ((M5 188 2) + (kI 1))) fun M6 => tRet ((M6 188 2) - (kI 1)) M6) (tRet (kI (-1)) M1))))
theorem D_47_ok {X : aX} {F d : Nat} {K : Nat → aK} (hS : pS K) {p1 : Int32} {p2 : Int32} {M : pMem} {out : Option Value × aH} (H : aM X F d 47 [.ref 188, .int p1, .int p2] (pH K M) = some out) : pG eI K out (D_47 p1 p2 M) := by
  obtain ⟨d', g0, _, H⟩ := pEnt (n := 3) (ls := [.ref 188, .int p1, .int p2]) (mcb_47 rfl) (by decide +kernel) rfl H
  unfold D_47
  replace H := pRun (ls' := [.ref 188, .int p1, .int p2]) (st' := [.int (kI 0), .ref 188]) 2 rfl H
  obtain ⟨M1, eM1, H⟩ := pPutN (j := 0) rfl H
  refine pG_put (M2 := M1) eM1 ?_
  replace H := pRun (ls' := [.ref 188, .int p1, .int p2]) (st' := [.int p1, .ref 188]) 2 rfl H
  obtain ⟨rv, h1, hc, H⟩ := pCalV 46 1 188 (as := [.int p1]) (rest := []) rfl (by decide) (by decide +kernel) rfl rfl H
  replace H := pUseF (f_46_ok hS hc) H
  rcases pIf0 (n1 := 4) rfl (mcb_47 rfl) (mcb_47 rfl) H with ⟨g1, g0, _, H⟩ | ⟨g1, g0, _, H⟩
  · refine pG_pos (c := (f_46 p1) = 0) g1 ?_
    replace H := pRun (ls' := [.ref 188, .int p1, .int p2]) (st' := [.int (kI (-1))]) 1 rfl H
    exact pG_ret (pRetI H)
  · refine pG_neg (c := (f_46 p1) = 0) g1 ?_
    replace H := pRun (ls' := [.ref 188, .int p1, .int p2]) (st' := [.int (kI 9), .int (kI 0), .int p2, .ref 188]) 4 rfl H
    obtain ⟨rv, h1, hc, H⟩ := pCalV 42 3 188 (as := [.int p2, .int (kI 0), .int (kI 9)]) (rest := []) rfl (by decide) (by decide +kernel) rfl rfl H
    replace H := pUseF (f_42_ok hS hc) H
    rcases pIf0 (n1 := 4) rfl (mcb_47 rfl) (mcb_47 rfl) H with ⟨g2, g0, _, H⟩ | ⟨g2, g0, _, H⟩
    · refine pG_pos (c := (f_42 p2 (kI 0) (kI 9)) = 0) g2 ?_
      replace H := pRun (ls' := [.ref 188, .int p1, .int p2]) (st' := [.int (kI (-1))]) 1 rfl H
      exact pG_ret (pRetI H)
    · refine pG_neg (c := (f_42 p2 (kI 0) (kI 9)) = 0) g2 ?_
      replace H := pRun (ls' := [.ref 188, .int p1, .int p2]) (st' := [.ref 188]) 1 rfl H
      replace H := pGetN (v := M1 188 2) rfl (by decide) H
      replace H := pRun (ls' := [.ref 188, .int p1, .int p2]) (st' := [.int (kI 24), .int (M1 188 2)]) 1 rfl H
      rcases pIfc (n1 := 4) rfl (mcb_47 rfl) (mcb_47 rfl) H with ⟨g3, g0, _, H⟩ | ⟨g3, g0, _, H⟩
      · refine pG_pos (c := (M1 188 2) = (kI 24)) g3 ?_
        replace H := pRun (ls' := [.ref 188, .int p1, .int p2]) (st' := [.int (kI (-1))]) 1 rfl H
        exact pG_ret (pRetI H)
      · refine pG_neg (c := (M1 188 2) = (kI 24)) g3 ?_
        replace H := pRun (ls' := [.ref 188, .int p1, .int p2]) (st' := [.ref 188]) 1 rfl H
        replace H := pGetN (v := M1 188 3) rfl (by decide) H
        rcases pIf0 (n1 := 5) rfl (mcb_47 rfl) (mcb_47 rfl) H with ⟨g4, g0, _, H⟩ | ⟨g4, g0, _, H⟩
        · refine pG_pos (c := (M1 188 3) ≤ 0) g4 ?_
          replace H := pRun (ls' := [.ref 188, .int p1, .int p2]) (st' := [.ref 188]) 1 rfl H
          replace H := pGetR (r := 189) (pRf hS (by decide +kernel)) rfl H
          replace H := pRun (ls' := [.ref 188, .int p1, .int p2]) (st' := [.ref 188, .ref 189]) 1 rfl H
          replace H := pGetN (v := M1 188 2) rfl (by decide) H
          replace H := pRun (ls' := [.ref 188, .int p1, .int p2]) (st' := [.int p1, .int (M1 188 2), .ref 189]) 1 rfl H
          obtain ⟨g5, M2, eM2, H⟩ := pIst (n := 24) (pLn hS (show pCa 189 24 = true by decide +kernel)) H
          refine pG_gd g5 (pG_put (M2 := M2) eM2 ?_)
          replace H := pRun (ls' := [.ref 188, .int p1, .int p2]) (st' := [.ref 188]) 1 rfl H
          replace H := pGetR (r := 190) (pRf hS (by decide +kernel)) rfl H
          replace H := pRun (ls' := [.ref 188, .int p1, .int p2]) (st' := [.ref 188, .ref 190]) 1 rfl H
          replace H := pGetN (v := M2 188 2) rfl (by decide) H
          replace H := pRun (ls' := [.ref 188, .int p1, .int p2]) (st' := [.int p2, .int (M2 188 2), .ref 190]) 1 rfl H
          obtain ⟨g6, M3, eM3, H⟩ := pIst (n := 24) (pLn hS (show pCa 190 24 = true by decide +kernel)) H
          refine pG_gd g6 (pG_put (M2 := M3) eM3 ?_)
          replace H := pRun (ls' := [.ref 188, .int p1, .int p2]) (st' := [.ref 188]) 1 rfl H
          replace H := pGetR (r := 191) (pRf hS (by decide +kernel)) rfl H
          replace H := pRun (ls' := [.ref 188, .int p1, .int p2]) (st' := [.ref 188, .ref 191]) 1 rfl H
          replace H := pGetN (v := M3 188 2) rfl (by decide) H
          replace H := pRun (ls' := [.ref 188, .int p1, .int p2]) (st' := [.int (kI 1), .int (M3 188 2), .ref 191]) 1 rfl H
          obtain ⟨g7, M4, eM4, H⟩ := pIst (n := 24) (pLn hS (show pCa 191 24 = true by decide +kernel)) H
          refine pG_gd g7 (pG_put (M2 := M4) eM4 ?_)
          replace H := pRun (ls' := [.ref 188, .int p1, .int p2]) (st' := [.ref 188]) 1 rfl H
          replace H := pGetR (r := 192) (pRf hS (by decide +kernel)) rfl H
          replace H := pRun (ls' := [.ref 188, .int p1, .int p2]) (st' := [.ref 188, .ref 192]) 1 rfl H
          replace H := pGetN (v := M4 188 2) rfl (by decide) H
          replace H := pRun (ls' := [.ref 188, .int p1, .int p2]) (st' := [.int (kI 1), .int (M4 188 2), .ref 192]) 1 rfl H
          obtain ⟨g8, M5, eM5, H⟩ := pIst (n := 24) (pLn hS (show pCa 192 24 = true by decide +kernel)) H
          refine pG_gd g8 (pG_put (M2 := M5) eM5 ?_)
          replace H := pRun (ls' := [.ref 188, .int p1, .int p2]) (st' := [.ref 188, .ref 188]) 2 rfl H
          replace H := pGetN (v := M5 188 2) rfl (by decide) H
          replace H := pRun (ls' := [.ref 188, .int p1, .int p2]) (st' := [.int ((M5 188 2) + (kI 1)), .ref 188]) 2 rfl H
          obtain ⟨M6, eM6, H⟩ := pPutN (j := 2) rfl H
          refine pG_put (M2 := M6) eM6 ?_
          replace H := pRun (ls' := [.ref 188, .int p1, .int p2]) (st' := [.ref 188]) 1 rfl H
          replace H := pGetN (v := M6 188 2) rfl (by decide) H
          replace H := pRun (ls' := [.ref 188, .int p1, .int p2]) (st' := [.int ((M6 188 2) - (kI 1))]) 2 rfl H
          exact pG_ret (pRetI H)
        · refine pG_neg (c := (M1 188 3) ≤ 0) g4 ?_
          replace H := pRun (ls' := [.ref 188, .int p1, .int p2]) (st' := [.int (kI (-1))]) 1 rfl H
          exact pG_ret (pRetI H)
def l_47 : List (Nat × Nat) := [(189, 999), (190, 999), (191, 999), (192, 999), (188, 2)]
theorem F_47 {p1 : Int32} {p2 : Int32} {M : pMem} {v : Int32} {N : pMem} (h : D_47 p1 p2 M v N) : pFr (l_47) M N :=
  (show pTf (l_47) M (D_47 p1 p2 M) from (tf_putS1 pFr_refl rfl fun M1 f1 => (tf_if (tf_ret f1) (tf_if (tf_ret f1) (tf_if (tf_ret f1) (tf_if (tf_gd fun g5 => (tf_putA f1 0 rfl fun M2 f2 => (tf_gd fun g6 => (tf_putA f2 1 rfl fun M3 f3 => (tf_gd fun g7 => (tf_putA f3 2 rfl fun M4 f4 => (tf_gd fun g8 => (tf_putA f4 3 rfl fun M5 f5 => (tf_put f5 4 rfl fun M6 f6 => (tf_ret f6)))))))))) (tf_ret f1))))))) v N h
/-- TwoCampsModel.like(III)Z -/
def D_48 (p1 : Int32) (p2 : Int32) (p3 : Int32) (M : pMem) : pT Int32 := tPut (aPut M 188 0 (kI 0)) fun M1 => tIf ((f_45 p1 M1) = 0) (tRet (kI 0) M1) (tIf ((f_45 p2 M1) = 0) (tRet (kI 0) M1) (tIf (p1 = p2) (tRet (kI 0) M1) (tIf (¬ (f_42 p3 (kI (-50)) (kI 50)) = 0) (tGd (pIn (((kI 24) * p1) + p2) 576) <| tPut (aPut M1 194 (ix (((kI 24) * p1) + p2)) p3) fun M2 => tRet (kI 1) M2) (tRet (kI 0) M1))))
theorem D_48_ok {X : aX} {F d : Nat} {K : Nat → aK} (hS : pS K) {p1 : Int32} {p2 : Int32} {p3 : Int32} {M : pMem} {out : Option Value × aH} (H : aM X F d 48 [.ref 188, .int p1, .int p2, .int p3] (pH K M) = some out) : pG eI K out (D_48 p1 p2 p3 M) := by
  obtain ⟨d', g0, _, H⟩ := pEnt (n := 4) (ls := [.ref 188, .int p1, .int p2, .int p3]) (mcb_48 rfl) (by decide +kernel) rfl H
  unfold D_48
  replace H := pRun (ls' := [.ref 188, .int p1, .int p2, .int p3]) (st' := [.int (kI 0), .ref 188]) 2 rfl H
  obtain ⟨M1, eM1, H⟩ := pPutN (j := 0) rfl H
  refine pG_put (M2 := M1) eM1 ?_
  replace H := pRun (ls' := [.ref 188, .int p1, .int p2, .int p3]) (st' := [.int p1, .ref 188]) 2 rfl H
  obtain ⟨rv, h1, hc, H⟩ := pCalV 45 1 188 (as := [.int p1]) (rest := []) rfl (by decide) (by decide +kernel) rfl rfl H
  replace H := pUseF (f_45_ok hS hc) H
  rcases pIf0 (n1 := 4) rfl (mcb_48 rfl) (mcb_48 rfl) H with ⟨g1, g0, _, H⟩ | ⟨g1, g0, _, H⟩
  · refine pG_pos (c := (f_45 p1 M1) = 0) g1 ?_
    replace H := pRun (ls' := [.ref 188, .int p1, .int p2, .int p3]) (st' := [.int (kI 0)]) 1 rfl H
    exact pG_ret (pRetI H)
  · refine pG_neg (c := (f_45 p1 M1) = 0) g1 ?_
    replace H := pRun (ls' := [.ref 188, .int p1, .int p2, .int p3]) (st' := [.int p2, .ref 188]) 2 rfl H
    obtain ⟨rv, h1, hc, H⟩ := pCalV 45 1 188 (as := [.int p2]) (rest := []) rfl (by decide) (by decide +kernel) rfl rfl H
    replace H := pUseF (f_45_ok hS hc) H
    rcases pIf0 (n1 := 4) rfl (mcb_48 rfl) (mcb_48 rfl) H with ⟨g2, g0, _, H⟩ | ⟨g2, g0, _, H⟩
    · refine pG_pos (c := (f_45 p2 M1) = 0) g2 ?_
      replace H := pRun (ls' := [.ref 188, .int p1, .int p2, .int p3]) (st' := [.int (kI 0)]) 1 rfl H
      exact pG_ret (pRetI H)
    · refine pG_neg (c := (f_45 p2 M1) = 0) g2 ?_
      replace H := pRun (ls' := [.ref 188, .int p1, .int p2, .int p3]) (st' := [.int p2, .int p1]) 2 rfl H
      rcases pIfc (n1 := 4) rfl (mcb_48 rfl) (mcb_48 rfl) H with ⟨g3, g0, _, H⟩ | ⟨g3, g0, _, H⟩
      · refine pG_pos (c := p1 = p2) g3 ?_
        replace H := pRun (ls' := [.ref 188, .int p1, .int p2, .int p3]) (st' := [.int (kI 0)]) 1 rfl H
        exact pG_ret (pRetI H)
      · refine pG_neg (c := p1 = p2) g3 ?_
        replace H := pRun (ls' := [.ref 188, .int p1, .int p2, .int p3]) (st' := [.int (kI 50), .int (kI (-50)), .int p3, .ref 188]) 4 rfl H
        obtain ⟨rv, h1, hc, H⟩ := pCalV 42 3 188 (as := [.int p3, .int (kI (-50)), .int (kI 50)]) (rest := []) rfl (by decide) (by decide +kernel) rfl rfl H
        replace H := pUseF (f_42_ok hS hc) H
        rcases pIf0 (n1 := 5) rfl (mcb_48 rfl) (mcb_48 rfl) H with ⟨g4, g0, _, H⟩ | ⟨g4, g0, _, H⟩
        · refine pG_pos (c := ¬ (f_42 p3 (kI (-50)) (kI 50)) = 0) g4 ?_
          replace H := pRun (ls' := [.ref 188, .int p1, .int p2, .int p3]) (st' := [.ref 188]) 1 rfl H
          replace H := pGetR (r := 194) (pRf hS (by decide +kernel)) rfl H
          replace H := pRun (ls' := [.ref 188, .int p1, .int p2, .int p3]) (st' := [.int p3, .int (((kI 24) * p1) + p2), .ref 194]) 6 rfl H
          obtain ⟨g5, M2, eM2, H⟩ := pIst (n := 576) (pLn hS (show pCa 194 576 = true by decide +kernel)) H
          refine pG_gd g5 (pG_put (M2 := M2) eM2 ?_)
          replace H := pRun (ls' := [.ref 188, .int p1, .int p2, .int p3]) (st' := [.int (kI 1)]) 1 rfl H
          exact pG_ret (pRetI H)
        · refine pG_neg (c := ¬ (f_42 p3 (kI (-50)) (kI 50)) = 0) g4 ?_
          replace H := pRun (ls' := [.ref 188, .int p1, .int p2, .int p3]) (st' := [.int (kI 0)]) 1 rfl H
          exact pG_ret (pRetI H)
def l_48 : List (Nat × Nat) := [(194, 999)]
theorem F_48 {p1 : Int32} {p2 : Int32} {p3 : Int32} {M : pMem} {v : Int32} {N : pMem} (h : D_48 p1 p2 p3 M v N) : pFr (l_48) M N :=
  (show pTf (l_48) M (D_48 p1 p2 p3 M) from (tf_putS1 pFr_refl rfl fun M1 f1 => (tf_if (tf_ret f1) (tf_if (tf_ret f1) (tf_if (tf_ret f1) (tf_if (tf_gd fun g5 => (tf_putA f1 0 rfl fun M2 f2 => (tf_ret f2))) (tf_ret f1))))))) v N h
/-- TwoCampsModel.knew(IIZ)Z -/
def D_49 (p1 : Int32) (p2 : Int32) (p3 : Int32) (M : pMem) : pT Int32 := tPut (aPut M 188 0 (kI 0)) fun M1 => tIf ((f_45 p1 M1) = 0) (tRet (kI 0) M1) (tIf ((f_45 p2 M1) = 0) (tRet (kI 0) M1) (tIf (¬ p1 = p2) (tIf (p3 = 0) (tGd (pIn (((kI 24) * p1) + p2) 576) <| tPut (aPut M1 195 (ix (((kI 24) * p1) + p2)) (kI 0)) fun M2 => tIf (p3 = 0) (tGd (pIn (((kI 24) * p2) + p1) 576) <| tPut (aPut M2 195 (ix (((kI 24) * p2) + p1)) (kI 0)) fun M3 => tRet (kI 1) M3) (tGd (pIn (((kI 24) * p2) + p1) 576) <| tPut (aPut M2 195 (ix (((kI 24) * p2) + p1)) (kI 1)) fun M3 => tRet (kI 1) M3)) (tGd (pIn (((kI 24) * p1) + p2) 576) <| tPut (aPut M1 195 (ix (((kI 24) * p1) + p2)) (kI 1)) fun M2 => tIf (p3 = 0) (tGd (pIn (((kI 24) * p2) + p1) 576) <| tPut (aPut M2 195 (ix (((kI 24) * p2) + p1)) (kI 0)) fun M3 => tRet (kI 1) M3) (tGd (pIn (((kI 24) * p2) + p1) 576) <| tPut (aPut M2 195 (ix (((kI 24) * p2) + p1)) (kI 1)) fun M3 => tRet (kI 1) M3))) (tRet (kI 0) M1)))
theorem D_49_ok {X : aX} {F d : Nat} {K : Nat → aK} (hS : pS K) {p1 : Int32} {p2 : Int32} {p3 : Int32} {M : pMem} {out : Option Value × aH} (H : aM X F d 49 [.ref 188, .int p1, .int p2, .int p3] (pH K M) = some out) : pG eI K out (D_49 p1 p2 p3 M) := by
  obtain ⟨d', g0, _, H⟩ := pEnt (n := 4) (ls := [.ref 188, .int p1, .int p2, .int p3]) (mcb_49 rfl) (by decide +kernel) rfl H
  unfold D_49
  replace H := pRun (ls' := [.ref 188, .int p1, .int p2, .int p3]) (st' := [.int (kI 0), .ref 188]) 2 rfl H
  obtain ⟨M1, eM1, H⟩ := pPutN (j := 0) rfl H
  refine pG_put (M2 := M1) eM1 ?_
  replace H := pRun (ls' := [.ref 188, .int p1, .int p2, .int p3]) (st' := [.int p1, .ref 188]) 2 rfl H
  obtain ⟨rv, h1, hc, H⟩ := pCalV 45 1 188 (as := [.int p1]) (rest := []) rfl (by decide) (by decide +kernel) rfl rfl H
  replace H := pUseF (f_45_ok hS hc) H
  rcases pIf0 (n1 := 3) rfl (mcb_49 rfl) (mcb_49 rfl) H with ⟨g1, g0, _, H⟩ | ⟨g1, g0, _, H⟩
  · refine pG_pos (c := (f_45 p1 M1) = 0) g1 ?_
    replace H := pRun (ls' := [.ref 188, .int p1, .int p2, .int p3]) (st' := [.int (kI 0)]) 1 rfl H
    exact pG_ret (pRetI H)
  · refine pG_neg (c := (f_45 p1 M1) = 0) g1 ?_
    replace H := pRun (ls' := [.ref 188, .int p1, .int p2, .int p3]) (st' := [.int p2, .ref 188]) 2 rfl H
    obtain ⟨rv, h1, hc, H⟩ := pCalV 45 1 188 (as := [.int p2]) (rest := []) rfl (by decide) (by decide +kernel) rfl rfl H
    replace H := pUseF (f_45_ok hS hc) H
    rcases pIf0 (n1 := 3) rfl (mcb_49 rfl) (mcb_49 rfl) H with ⟨g2, g0, _, H⟩ | ⟨g2, g0, _, H⟩
    · refine pG_pos (c := (f_45 p2 M1) = 0) g2 ?_
      replace H := pRun (ls' := [.ref 188, .int p1, .int p2, .int p3]) (st' := [.int (kI 0)]) 1 rfl H
      exact pG_ret (pRetI H)
    · refine pG_neg (c := (f_45 p2 M1) = 0) g2 ?_
      replace H := pRun (ls' := [.ref 188, .int p1, .int p2, .int p3]) (st' := [.int p2, .int p1]) 2 rfl H
      rcases pIfc (n1 := 4) rfl (mcb_49 rfl) (mcb_49 rfl) H with ⟨g3, g0, _, H⟩ | ⟨g3, g0, _, H⟩
      · refine pG_pos (c := ¬ p1 = p2) g3 ?_
        replace H := pRun (ls' := [.ref 188, .int p1, .int p2, .int p3]) (st' := [.ref 188]) 1 rfl H
        replace H := pGetR (r := 195) (pRf hS (by decide +kernel)) rfl H
        replace H := pRun (ls' := [.ref 188, .int p1, .int p2, .int p3]) (st' := [.int p3, .int (((kI 24) * p1) + p2), .ref 195]) 6 rfl H
        rcases pIf0 (n1 := 6) rfl (mcb_49 rfl) (mcb_49 rfl) H with ⟨g4, g0, _, H⟩ | ⟨g4, g0, _, H⟩
        · refine pG_pos (c := p3 = 0) g4 ?_
          replace H := pRun (ls' := [.ref 188, .int p1, .int p2, .int p3]) (st' := [.int (kI 0), .int (((kI 24) * p1) + p2), .ref 195]) 1 rfl H
          obtain ⟨g0, _, H⟩ := pFall (mcb_49 rfl) H
          obtain ⟨g5, M2, eM2, H⟩ := pIst (n := 576) (pLn hS (show pCa 195 576 = true by decide +kernel)) H
          refine pG_gd g5 (pG_put (M2 := M2) eM2 ?_)
          replace H := pRun (ls' := [.ref 188, .int p1, .int p2, .int p3]) (st' := [.ref 188]) 1 rfl H
          replace H := pGetR (r := 195) (pRf hS (by decide +kernel)) rfl H
          replace H := pRun (ls' := [.ref 188, .int p1, .int p2, .int p3]) (st' := [.int p3, .int (((kI 24) * p2) + p1), .ref 195]) 6 rfl H
          rcases pIf0 (n1 := 9) rfl (mcb_49 rfl) (mcb_49 rfl) H with ⟨g6, g0, _, H⟩ | ⟨g6, g0, _, H⟩
          · refine pG_pos (c := p3 = 0) g6 ?_
            replace H := pRun (ls' := [.ref 188, .int p1, .int p2, .int p3]) (st' := [.int (kI 0), .int (((kI 24) * p2) + p1), .ref 195]) 1 rfl H
            obtain ⟨g0, _, H⟩ := pFall (mcb_49 rfl) H
            obtain ⟨g7, M3, eM3, H⟩ := pIst (n := 576) (pLn hS (show pCa 195 576 = true by decide +kernel)) H
            refine pG_gd g7 (pG_put (M2 := M3) eM3 ?_)
            replace H := pRun (ls' := [.ref 188, .int p1, .int p2, .int p3]) (st' := [.int (kI 1)]) 1 rfl H
            exact pG_ret (pRetI H)
          · refine pG_neg (c := p3 = 0) g6 ?_
            replace H := pRun (ls' := [.ref 188, .int p1, .int p2, .int p3]) (st' := [.int (kI 1), .int (((kI 24) * p2) + p1), .ref 195]) 1 rfl H
            obtain ⟨g0, _, H⟩ := pGo (n1 := 10) rfl (mcb_49 rfl) H
            obtain ⟨g7, M3, eM3, H⟩ := pIst (n := 576) (pLn hS (show pCa 195 576 = true by decide +kernel)) H
            refine pG_gd g7 (pG_put (M2 := M3) eM3 ?_)
            replace H := pRun (ls' := [.ref 188, .int p1, .int p2, .int p3]) (st' := [.int (kI 1)]) 1 rfl H
            exact pG_ret (pRetI H)
        · refine pG_neg (c := p3 = 0) g4 ?_
          replace H := pRun (ls' := [.ref 188, .int p1, .int p2, .int p3]) (st' := [.int (kI 1), .int (((kI 24) * p1) + p2), .ref 195]) 1 rfl H
          obtain ⟨g0, _, H⟩ := pGo (n1 := 7) rfl (mcb_49 rfl) H
          obtain ⟨g5, M2, eM2, H⟩ := pIst (n := 576) (pLn hS (show pCa 195 576 = true by decide +kernel)) H
          refine pG_gd g5 (pG_put (M2 := M2) eM2 ?_)
          replace H := pRun (ls' := [.ref 188, .int p1, .int p2, .int p3]) (st' := [.ref 188]) 1 rfl H
          replace H := pGetR (r := 195) (pRf hS (by decide +kernel)) rfl H
          replace H := pRun (ls' := [.ref 188, .int p1, .int p2, .int p3]) (st' := [.int p3, .int (((kI 24) * p2) + p1), .ref 195]) 6 rfl H
          rcases pIf0 (n1 := 9) rfl (mcb_49 rfl) (mcb_49 rfl) H with ⟨g6, g0, _, H⟩ | ⟨g6, g0, _, H⟩
          · refine pG_pos (c := p3 = 0) g6 ?_
            replace H := pRun (ls' := [.ref 188, .int p1, .int p2, .int p3]) (st' := [.int (kI 0), .int (((kI 24) * p2) + p1), .ref 195]) 1 rfl H
            obtain ⟨g0, _, H⟩ := pFall (mcb_49 rfl) H
            obtain ⟨g7, M3, eM3, H⟩ := pIst (n := 576) (pLn hS (show pCa 195 576 = true by decide +kernel)) H
            refine pG_gd g7 (pG_put (M2 := M3) eM3 ?_)
            replace H := pRun (ls' := [.ref 188, .int p1, .int p2, .int p3]) (st' := [.int (kI 1)]) 1 rfl H
            exact pG_ret (pRetI H)
          · refine pG_neg (c := p3 = 0) g6 ?_
            replace H := pRun (ls' := [.ref 188, .int p1, .int p2, .int p3]) (st' := [.int (kI 1), .int (((kI 24) * p2) + p1), .ref 195]) 1 rfl H
            obtain ⟨g0, _, H⟩ := pGo (n1 := 10) rfl (mcb_49 rfl) H
            obtain ⟨g7, M3, eM3, H⟩ := pIst (n := 576) (pLn hS (show pCa 195 576 = true by decide +kernel)) H
            refine pG_gd g7 (pG_put (M2 := M3) eM3 ?_)
            replace H := pRun (ls' := [.ref 188, .int p1, .int p2, .int p3]) (st' := [.int (kI 1)]) 1 rfl H
            exact pG_ret (pRetI H)
      · refine pG_neg (c := ¬ p1 = p2) g3 ?_
        replace H := pRun (ls' := [.ref 188, .int p1, .int p2, .int p3]) (st' := [.int (kI 0)]) 1 rfl H
        exact pG_ret (pRetI H)
def l_49 : List (Nat × Nat) := [(195, 999)]
theorem F_49 {p1 : Int32} {p2 : Int32} {p3 : Int32} {M : pMem} {v : Int32} {N : pMem} (h : D_49 p1 p2 p3 M v N) : pFr (l_49) M N :=
  (show pTf (l_49) M (D_49 p1 p2 p3 M) from (tf_putS1 pFr_refl rfl fun M1 f1 => (tf_if (tf_ret f1) (tf_if (tf_ret f1) (tf_if (tf_if (tf_gd fun g5 => (tf_putA f1 0 rfl fun M2 f2 => (tf_if (tf_gd fun g7 => (tf_putA f2 0 rfl fun M3 f3 => (tf_ret f3))) (tf_gd fun g7 => (tf_putA f2 0 rfl fun M3 f3 => (tf_ret f3)))))) (tf_gd fun g5 => (tf_putA f1 0 rfl fun M2 f2 => (tf_if (tf_gd fun g7 => (tf_putA f2 0 rfl fun M3 f3 => (tf_ret f3))) (tf_gd fun g7 => (tf_putA f2 0 rfl fun M3 f3 => (tf_ret f3))))))) (tf_ret f1)))))) v N h
/-- TwoCampsModel.state(I)I -/
def D_50 (p1 : Int32) (M : pMem) : pT Int32 := tPut (aPut M 188 0 (kI 0)) fun M1 => tPut (aPut M1 188 1 p1) fun M2 => tRet (M1 188 1) M2
theorem D_50_ok {X : aX} {F d : Nat} {K : Nat → aK} (hS : pS K) {p1 : Int32} {M : pMem} {out : Option Value × aH} (H : aM X F d 50 [.ref 188, .int p1] (pH K M) = some out) : pG eI K out (D_50 p1 M) := by
  obtain ⟨d', g0, _, H⟩ := pEnt (n := 3) (ls := [.ref 188, .int p1, aD]) (mcb_50 rfl) (by decide +kernel) rfl H
  unfold D_50
  replace H := pRun (ls' := [.ref 188, .int p1, aD]) (st' := [.int (kI 0), .ref 188]) 2 rfl H
  obtain ⟨M1, eM1, H⟩ := pPutN (j := 0) rfl H
  refine pG_put (M2 := M1) eM1 ?_
  replace H := pRun (ls' := [.ref 188, .int p1, aD]) (st' := [.ref 188]) 1 rfl H
  replace H := pGetN (v := M1 188 1) rfl (by decide) H
  replace H := pRun (ls' := [.ref 188, .int p1, .int (M1 188 1)]) (st' := [.int p1, .ref 188]) 3 rfl H
  obtain ⟨M2, eM2, H⟩ := pPutN (j := 1) rfl H
  refine pG_put (M2 := M2) eM2 ?_
  replace H := pRun (ls' := [.ref 188, .int p1, .int (M1 188 1)]) (st' := [.int (M1 188 1)]) 1 rfl H
  exact pG_ret (pRetI H)
def l_50 : List (Nat × Nat) := [(188, 1)]
theorem F_50 {p1 : Int32} {M : pMem} {v : Int32} {N : pMem} (h : D_50 p1 M v N) : pFr (l_50) M N :=
  (show pTf (l_50) M (D_50 p1 M) from (tf_putS1 pFr_refl rfl fun M1 f1 => (tf_put f1 0 rfl fun M2 f2 => (tf_ret f2)))) v N h
/-- TwoCampsModel.draw(I)I -/
def D_51 (p1 : Int32) (M : pMem) : pT Int32 := tPut (aPut M 188 1 (((kI 1664525) * (M 188 1)) + (kI 1013904223))) fun M1 => tGd (¬ p1 = 0) <| tRet (pRem (pUsr (M1 188 1) (kI 8)) p1) M1
theorem D_51_ok {X : aX} {F d : Nat} {K : Nat → aK} (hS : pS K) {p1 : Int32} {M : pMem} {out : Option Value × aH} (H : aM X F d 51 [.ref 188, .int p1] (pH K M) = some out) : pG eI K out (D_51 p1 M) := by
  obtain ⟨d', g0, _, H⟩ := pEnt (n := 2) (ls := [.ref 188, .int p1]) (mcb_51 rfl) (by decide +kernel) rfl H
  unfold D_51
  replace H := pRun (ls' := [.ref 188, .int p1]) (st' := [.ref 188]) 1 rfl H
  replace H := pLdc (x := 1664525) (by decide) H
  replace H := pRun (ls' := [.ref 188, .int p1]) (st' := [.ref 188, .int (kI 1664525), .ref 188]) 1 rfl H
  replace H := pGetN (v := M 188 1) rfl (by decide) H
  replace H := pRun (ls' := [.ref 188, .int p1]) (st' := [.int ((kI 1664525) * (M 188 1)), .ref 188]) 1 rfl H
  replace H := pLdc (x := 1013904223) (by decide) H
  replace H := pRun (ls' := [.ref 188, .int p1]) (st' := [.int (((kI 1664525) * (M 188 1)) + (kI 1013904223)), .ref 188]) 1 rfl H
  obtain ⟨M1, eM1, H⟩ := pPutN (j := 1) rfl H
  refine pG_put (M2 := M1) eM1 ?_
  replace H := pRun (ls' := [.ref 188, .int p1]) (st' := [.ref 188]) 1 rfl H
  replace H := pGetN (v := M1 188 1) rfl (by decide) H
  replace H := pRun (ls' := [.ref 188, .int p1]) (st' := [.int p1, .int (pUsr (M1 188 1) (kI 8))]) 3 rfl H
  obtain ⟨g1, H⟩ := pRmd H
  refine pG_gd g1 ?_
  exact pG_ret (pRetI H)
def l_51 : List (Nat × Nat) := [(188, 1)]
theorem F_51 {p1 : Int32} {M : pMem} {v : Int32} {N : pMem} (h : D_51 p1 M v N) : pFr (l_51) M N :=
  (show pTf (l_51) M (D_51 p1 M) from (tf_put pFr_refl 0 rfl fun M1 f1 => (tf_gd fun g1 => (tf_ret f1)))) v N h
/-- TwoCampsModel.number(II)Z -/
def D_52 (p1 : Int32) (p2 : Int32) (M : pMem) : pT Int32 := tPut (aPut M 188 0 (kI 0)) fun M1 => tIf ((f_45 p1 M1) = 0) (tRet (kI 0) M1) (tIf (¬ (f_42 p2 (kI 0) (kI 99)) = 0) (tGd (pIn p1 24) <| tPut (aPut M1 193 (ix p1) p2) fun M2 => tRet (kI 1) M2) (tRet (kI 0) M1))
theorem D_52_ok {X : aX} {F d : Nat} {K : Nat → aK} (hS : pS K) {p1 : Int32} {p2 : Int32} {M : pMem} {out : Option Value × aH} (H : aM X F d 52 [.ref 188, .int p1, .int p2] (pH K M) = some out) : pG eI K out (D_52 p1 p2 M) := by
  obtain ⟨d', g0, _, H⟩ := pEnt (n := 3) (ls := [.ref 188, .int p1, .int p2]) (mcb_52 rfl) (by decide +kernel) rfl H
  unfold D_52
  replace H := pRun (ls' := [.ref 188, .int p1, .int p2]) (st' := [.int (kI 0), .ref 188]) 2 rfl H
  obtain ⟨M1, eM1, H⟩ := pPutN (j := 0) rfl H
  refine pG_put (M2 := M1) eM1 ?_
  replace H := pRun (ls' := [.ref 188, .int p1, .int p2]) (st' := [.int p1, .ref 188]) 2 rfl H
  obtain ⟨rv, h1, hc, H⟩ := pCalV 45 1 188 (as := [.int p1]) (rest := []) rfl (by decide) (by decide +kernel) rfl rfl H
  replace H := pUseF (f_45_ok hS hc) H
  rcases pIf0 (n1 := 2) rfl (mcb_52 rfl) (mcb_52 rfl) H with ⟨g1, g0, _, H⟩ | ⟨g1, g0, _, H⟩
  · refine pG_pos (c := (f_45 p1 M1) = 0) g1 ?_
    replace H := pRun (ls' := [.ref 188, .int p1, .int p2]) (st' := [.int (kI 0)]) 1 rfl H
    exact pG_ret (pRetI H)
  · refine pG_neg (c := (f_45 p1 M1) = 0) g1 ?_
    replace H := pRun (ls' := [.ref 188, .int p1, .int p2]) (st' := [.int (kI 99), .int (kI 0), .int p2, .ref 188]) 4 rfl H
    obtain ⟨rv, h1, hc, H⟩ := pCalV 42 3 188 (as := [.int p2, .int (kI 0), .int (kI 99)]) (rest := []) rfl (by decide) (by decide +kernel) rfl rfl H
    replace H := pUseF (f_42_ok hS hc) H
    rcases pIf0 (n1 := 3) rfl (mcb_52 rfl) (mcb_52 rfl) H with ⟨g2, g0, _, H⟩ | ⟨g2, g0, _, H⟩
    · refine pG_pos (c := ¬ (f_42 p2 (kI 0) (kI 99)) = 0) g2 ?_
      replace H := pRun (ls' := [.ref 188, .int p1, .int p2]) (st' := [.ref 188]) 1 rfl H
      replace H := pGetR (r := 193) (pRf hS (by decide +kernel)) rfl H
      replace H := pRun (ls' := [.ref 188, .int p1, .int p2]) (st' := [.int p2, .int p1, .ref 193]) 2 rfl H
      obtain ⟨g3, M2, eM2, H⟩ := pIst (n := 24) (pLn hS (show pCa 193 24 = true by decide +kernel)) H
      refine pG_gd g3 (pG_put (M2 := M2) eM2 ?_)
      replace H := pRun (ls' := [.ref 188, .int p1, .int p2]) (st' := [.int (kI 1)]) 1 rfl H
      exact pG_ret (pRetI H)
    · refine pG_neg (c := ¬ (f_42 p2 (kI 0) (kI 99)) = 0) g2 ?_
      replace H := pRun (ls' := [.ref 188, .int p1, .int p2]) (st' := [.int (kI 0)]) 1 rfl H
      exact pG_ret (pRetI H)
def l_52 : List (Nat × Nat) := [(193, 999)]
theorem F_52 {p1 : Int32} {p2 : Int32} {M : pMem} {v : Int32} {N : pMem} (h : D_52 p1 p2 M v N) : pFr (l_52) M N :=
  (show pTf (l_52) M (D_52 p1 p2 M) from (tf_putS1 pFr_refl rfl fun M1 f1 => (tf_if (tf_ret f1) (tf_if (tf_gd fun g3 => (tf_putA f1 0 rfl fun M2 f2 => (tf_ret f2))) (tf_ret f1))))) v N h
/-- TwoCampsModel.sizeOf(I)I -/
def S_53_1 (p1 : Int32) (P1 : Int32 → Int32 → pMem → pT Int32) (x2 : Int32) (x3 : Int32) (M : pMem) : pT Int32 := tIf ((M 188 2) ≤ x3) (tRet x2 M) (tGd (pIn x3 24) <| tIf (¬ (M 191 (ix x3)) = (kI 1)) (P1 x2 (x3 + kI 1) M) (tGd (pIn x3 24) <| tIf (¬ (M 189 (ix x3)) = p1) (P1 x2 (x3 + kI 1) M) (P1 (x2 + (kI 1)) (x3 + kI 1) M)))
def C_53 (p1 : Int32) (P1 : Int32 → Int32 → pMem → pT Int32) : Prop := (∀ (x2 : Int32) (x3 : Int32) M v N, S_53_1 p1 P1 x2 x3 M v N → P1 x2 x3 M v N)
def L_53_1 (p1 : Int32) (x2 : Int32) (x3 : Int32) (M : pMem) : pT Int32 := fun v N => ∀ P : (Int32 → Int32 → pMem → pT Int32), C_53 p1 P → P x2 x3 M v N
def D_53 (p1 : Int32) (M : pMem) : pT Int32 := L_53_1 p1 (kI 0) (kI 0) M
theorem K_53 {X : aX} {F d : Nat} {K : Nat → aK} (hS : pS K) {p1 : Int32} {out : Option Value × aH} (P1 : Int32 → Int32 → pMem → pT Int32) (hC : C_53 p1 P1) : ∀ f, (∀ (x2 : Int32) (x3 : Int32) M, pm X F d 53 f 1 [.iload 3, .aload 0, .getfield 124412008, .if_icmp .ge 6] [.ref 188, .int p1, .int x2, .int x3] [] (pH K M) out → pG eI K out (P1 x2 x3 M)) := by
  intro f
  induction f using Nat.strongRecOn with
  | _ f ih =>
    intro x2 x3 M H
    refine pG_mono (fun v N h => hC x2 x3 M v N h) ?_
    unfold S_53_1
    replace H := pRun (ls' := [.ref 188, .int p1, .int x2, .int x3]) (st' := [.ref 188, .int x3]) 2 rfl H
    replace H := pGetN (v := M 188 2) rfl (by decide) H
    rcases pIfc (n1 := 6) rfl (mcb_53 rfl) (mcb_53 rfl) H with ⟨g1, g0, _, H⟩ | ⟨g1, g0, _, H⟩
    · refine pG_pos (c := (M 188 2) ≤ x3) g1 ?_
      replace H := pRun (ls' := [.ref 188, .int p1, .int x2, .int x3]) (st' := [.int x2]) 1 rfl H
      exact pG_ret (pRetI H)
    · refine pG_neg (c := (M 188 2) ≤ x3) g1 ?_
      replace H := pRun (ls' := [.ref 188, .int p1, .int x2, .int x3]) (st' := [.ref 188]) 1 rfl H
      replace H := pGetR (r := 191) (pRf hS (by decide +kernel)) rfl H
      replace H := pRun (ls' := [.ref 188, .int p1, .int x2, .int x3]) (st' := [.int x3, .ref 191]) 1 rfl H
      obtain ⟨g2, H⟩ := pIld (n := 24) (pLt (show pCa 191 24 = true by decide +kernel)) (pLn hS (show pCa 191 24 = true by decide +kernel)) H
      refine pG_gd g2 ?_
      replace H := pRun (ls' := [.ref 188, .int p1, .int x2, .int x3]) (st' := [.int (kI 1), .int (M 191 (ix x3))]) 1 rfl H
      rcases pIfc (n1 := 5) rfl (mcb_53 rfl) (mcb_53 rfl) H with ⟨g3, g0, _, H⟩ | ⟨g3, g0, _, H⟩
      · refine pG_pos (c := ¬ (M 191 (ix x3)) = (kI 1)) g3 ?_
        replace H := pRun (ls' := [.ref 188, .int p1, .int x2, .int (x3 + kI 1)]) (st' := []) 1 rfl H
        obtain ⟨g0, _, H⟩ := pGo (n1 := 1) rfl (mcb_53 rfl) H
        exact (ih _ (by omega)) _ _  _ H
      · refine pG_neg (c := ¬ (M 191 (ix x3)) = (kI 1)) g3 ?_
        replace H := pRun (ls' := [.ref 188, .int p1, .int x2, .int x3]) (st' := [.ref 188]) 1 rfl H
        replace H := pGetR (r := 189) (pRf hS (by decide +kernel)) rfl H
        replace H := pRun (ls' := [.ref 188, .int p1, .int x2, .int x3]) (st' := [.int x3, .ref 189]) 1 rfl H
        obtain ⟨g4, H⟩ := pIld (n := 24) (pLt (show pCa 189 24 = true by decide +kernel)) (pLn hS (show pCa 189 24 = true by decide +kernel)) H
        refine pG_gd g4 ?_
        replace H := pRun (ls' := [.ref 188, .int p1, .int x2, .int x3]) (st' := [.int p1, .int (M 189 (ix x3))]) 1 rfl H
        rcases pIfc (n1 := 5) rfl (mcb_53 rfl) (mcb_53 rfl) H with ⟨g5, g0, _, H⟩ | ⟨g5, g0, _, H⟩
        · refine pG_pos (c := ¬ (M 189 (ix x3)) = p1) g5 ?_
          replace H := pRun (ls' := [.ref 188, .int p1, .int x2, .int (x3 + kI 1)]) (st' := []) 1 rfl H
          obtain ⟨g0, _, H⟩ := pGo (n1 := 1) rfl (mcb_53 rfl) H
          exact (ih _ (by omega)) _ _  _ H
        · refine pG_neg (c := ¬ (M 189 (ix x3)) = p1) g5 ?_
          replace H := pRun (ls' := [.ref 188, .int p1, .int (x2 + (kI 1)), .int x3]) (st' := []) 4 rfl H
          obtain ⟨g0, _, H⟩ := pFall (mcb_53 rfl) H
          replace H := pRun (ls' := [.ref 188, .int p1, .int (x2 + (kI 1)), .int (x3 + kI 1)]) (st' := []) 1 rfl H
          obtain ⟨g0, _, H⟩ := pGo (n1 := 1) rfl (mcb_53 rfl) H
          exact (ih _ (by omega)) _ _  _ H
theorem L_53_1_ok {X : aX} {F d : Nat} {K : Nat → aK} (hS : pS K) {p1 : Int32} {out : Option Value × aH} {f : Nat} {x2 : Int32} {x3 : Int32} {M : pMem} (H : pm X F d 53 f 1 [.iload 3, .aload 0, .getfield 124412008, .if_icmp .ge 6] [.ref 188, .int p1, .int x2, .int x3] [] (pH K M) out) : pG eI K out (L_53_1 p1 x2 x3 M) := by
  refine pG_all (C := fun P : (Int32 → Int32 → pMem → pT Int32) => C_53 p1 P) (T := fun P => P x2 x3 M) eI_inj (fun _ _ _ _ _ => True) ?_ (fun P hP => (K_53 hS P hP f) _ _ _ H)
  exact (fun _ _ _ _ _ _ => trivial)
theorem D_53_ok {X : aX} {F d : Nat} {K : Nat → aK} (hS : pS K) {p1 : Int32} {M : pMem} {out : Option Value × aH} (H : aM X F d 53 [.ref 188, .int p1] (pH K M) = some out) : pG eI K out (D_53 p1 M) := by
  obtain ⟨d', g0, _, H⟩ := pEnt (n := 4) (ls := [.ref 188, .int p1, aD, aD]) (mcb_53 rfl) (by decide +kernel) rfl H
  unfold D_53
  replace H := pRun (ls' := [.ref 188, .int p1, .int (kI 0), .int (kI 0)]) (st' := []) 4 rfl H
  obtain ⟨g0, _, H⟩ := pFall (mcb_53 rfl) H
  exact L_53_1_ok hS  H
def l_53 : List (Nat × Nat) := []
theorem FC_53 {p1 : Int32} : C_53 p1 (fun _ _ M _ N => pFr (l_53) M N) := fun x2 x3 M => show pTf (l_53) M (S_53_1 p1 _ x2 x3 M) from (tf_if (tf_ret pFr_refl) (tf_gd fun g2 => (tf_if (tf_jump pFr_refl) (tf_gd fun g4 => (tf_if (tf_jump pFr_refl) (tf_jump pFr_refl))))))
theorem F_53 {p1 : Int32} {M : pMem} {v : Int32} {N : pMem} (h : D_53 p1 M v N) : pFr (l_53) M N :=
  (show pTf (l_53) M (D_53 p1 M) from (tf_jumpL (fun _ _ M _ N => pFr (l_53) M N) (FC_53) rfl pFr_refl)) v N h
/-- TwoCampsModel.meanOf(II)I -/
def S_54_1 (p1 : Int32) (p2 : Int32) (P1 : Int32 → Int32 → Int32 → pMem → pT Int32) (P3 : Int32 → Int32 → Int32 → Int32 → pMem → pT Int32) (x3 : Int32) (x4 : Int32) (x5 : Int32) (M : pMem) : pT Int32 := tIf ((M 188 2) ≤ x5) (tRet (f_43 x3 x4) M) (P3 x3 x4 x5 (kI 0) M)
def S_54_3 (p1 : Int32) (p2 : Int32) (P1 : Int32 → Int32 → Int32 → pMem → pT Int32) (P3 : Int32 → Int32 → Int32 → Int32 → pMem → pT Int32) (x3 : Int32) (x4 : Int32) (x5 : Int32) (x6 : Int32) (M : pMem) : pT Int32 := tIf ((M 188 2) ≤ x6) (P1 x3 x4 (x5 + kI 1) M) (tIf (x5 = x6) (P3 x3 x4 x5 (x6 + kI 1) M) (tGd (pIn x5 24) <| tIf ((M 191 (ix x5)) = 0) (P3 x3 x4 x5 (x6 + kI 1) M) (tGd (pIn x6 24) <| tIf ((M 191 (ix x6)) = 0) (P3 x3 x4 x5 (x6 + kI 1) M) (tGd (pIn x5 24) <| tIf (¬ (M 189 (ix x5)) = p1) (P3 x3 x4 x5 (x6 + kI 1) M) (tGd (pIn x6 24) <| tIf ((M 189 (ix x6)) = p2) (tGd (pIn (((kI 24) * x5) + x6) 576) <| P3 (x3 + (M 194 (ix (((kI 24) * x5) + x6)))) (x4 + (kI 1)) x5 (x6 + kI 1) M) (P3 x3 x4 x5 (x6 + kI 1) M))))))
def C_54 (p1 : Int32) (p2 : Int32) (P1 : Int32 → Int32 → Int32 → pMem → pT Int32) (P3 : Int32 → Int32 → Int32 → Int32 → pMem → pT Int32) : Prop := (∀ (x3 : Int32) (x4 : Int32) (x5 : Int32) M v N, S_54_1 p1 p2 P1 P3 x3 x4 x5 M v N → P1 x3 x4 x5 M v N) ∧ (∀ (x3 : Int32) (x4 : Int32) (x5 : Int32) (x6 : Int32) M v N, S_54_3 p1 p2 P1 P3 x3 x4 x5 x6 M v N → P3 x3 x4 x5 x6 M v N)
def L_54_1 (p1 : Int32) (p2 : Int32) (x3 : Int32) (x4 : Int32) (x5 : Int32) (M : pMem) : pT Int32 := fun v N => ∀ P : (Int32 → Int32 → Int32 → pMem → pT Int32) × (Int32 → Int32 → Int32 → Int32 → pMem → pT Int32), C_54 p1 p2 P.1 P.2 → P.1 x3 x4 x5 M v N
def L_54_3 (p1 : Int32) (p2 : Int32) (x3 : Int32) (x4 : Int32) (x5 : Int32) (x6 : Int32) (M : pMem) : pT Int32 := fun v N => ∀ P : (Int32 → Int32 → Int32 → pMem → pT Int32) × (Int32 → Int32 → Int32 → Int32 → pMem → pT Int32), C_54 p1 p2 P.1 P.2 → P.2 x3 x4 x5 x6 M v N
def D_54 (p1 : Int32) (p2 : Int32) (M : pMem) : pT Int32 := L_54_1 p1 p2 (kI 0) (kI 0) (kI 0) M
theorem K_54 {X : aX} {F d : Nat} {K : Nat → aK} (hS : pS K) {p1 : Int32} {p2 : Int32} {out : Option Value × aH} (P1 : Int32 → Int32 → Int32 → pMem → pT Int32) (P3 : Int32 → Int32 → Int32 → Int32 → pMem → pT Int32) (hC : C_54 p1 p2 P1 P3) : ∀ f, (∀ (x3 : Int32) (x4 : Int32) (x5 : Int32) (u6 : Value) M, pm X F d 54 f 1 [.iload 5, .aload 0, .getfield 124412008, .if_icmp .ge 13] [.ref 188, .int p1, .int p2, .int x3, .int x4, .int x5, u6] [] (pH K M) out → pG eI K out (P1 x3 x4 x5 M)) ∧ (∀ (x3 : Int32) (x4 : Int32) (x5 : Int32) (x6 : Int32) M, pm X F d 54 f 3 [.iload 6, .aload 0, .getfield 124412008, .if_icmp .ge 12] [.ref 188, .int p1, .int p2, .int x3, .int x4, .int x5, .int x6] [] (pH K M) out → pG eI K out (P3 x3 x4 x5 x6 M)) := by
  intro f
  induction f using Nat.strongRecOn with
  | _ f ih =>
    refine ⟨?_, ?_⟩
    · intro x3 x4 x5 u6 M H
      refine pG_mono (fun v N h => hC.1 x3 x4 x5 M v N h) ?_
      unfold S_54_1
      replace H := pRun (ls' := [.ref 188, .int p1, .int p2, .int x3, .int x4, .int x5, u6]) (st' := [.ref 188, .int x5]) 2 rfl H
      replace H := pGetN (v := M 188 2) rfl (by decide) H
      rcases pIfc (n1 := 13) rfl (mcb_54 rfl) (mcb_54 rfl) H with ⟨g1, g0, _, H⟩ | ⟨g1, g0, _, H⟩
      · refine pG_pos (c := (M 188 2) ≤ x5) g1 ?_
        replace H := pRun (ls' := [.ref 188, .int p1, .int p2, .int x3, .int x4, .int x5, u6]) (st' := [.int x4, .int x3, .ref 188]) 3 rfl H
        obtain ⟨rv, h1, hc, H⟩ := pCalV 43 2 188 (as := [.int x3, .int x4]) (rest := []) rfl (by decide) (by decide +kernel) rfl rfl H
        replace H := pUseF (f_43_ok hS hc) H
        exact pG_ret (pRetI H)
      · refine pG_neg (c := (M 188 2) ≤ x5) g1 ?_
        replace H := pRun (ls' := [.ref 188, .int p1, .int p2, .int x3, .int x4, .int x5, .int (kI 0)]) (st' := []) 2 rfl H
        obtain ⟨g0, _, H⟩ := pFall (mcb_54 rfl) H
        exact (ih _ (by omega)).2 _ _ _ _  _ H
    · intro x3 x4 x5 x6 M H
      refine pG_mono (fun v N h => hC.2 x3 x4 x5 x6 M v N h) ?_
      unfold S_54_3
      replace H := pRun (ls' := [.ref 188, .int p1, .int p2, .int x3, .int x4, .int x5, .int x6]) (st' := [.ref 188, .int x6]) 2 rfl H
      replace H := pGetN (v := M 188 2) rfl (by decide) H
      rcases pIfc (n1 := 12) rfl (mcb_54 rfl) (mcb_54 rfl) H with ⟨g1, g0, _, H⟩ | ⟨g1, g0, _, H⟩
      · refine pG_pos (c := (M 188 2) ≤ x6) g1 ?_
        replace H := pRun (ls' := [.ref 188, .int p1, .int p2, .int x3, .int x4, .int (x5 + kI 1), .int x6]) (st' := []) 1 rfl H
        obtain ⟨g0, _, H⟩ := pGo (n1 := 1) rfl (mcb_54 rfl) H
        exact (ih _ (by omega)).1 _ _ _ _  _ H
      · refine pG_neg (c := (M 188 2) ≤ x6) g1 ?_
        replace H := pRun (ls' := [.ref 188, .int p1, .int p2, .int x3, .int x4, .int x5, .int x6]) (st' := [.int x6, .int x5]) 2 rfl H
        rcases pIfc (n1 := 11) rfl (mcb_54 rfl) (mcb_54 rfl) H with ⟨g2, g0, _, H⟩ | ⟨g2, g0, _, H⟩
        · refine pG_pos (c := x5 = x6) g2 ?_
          replace H := pRun (ls' := [.ref 188, .int p1, .int p2, .int x3, .int x4, .int x5, .int (x6 + kI 1)]) (st' := []) 1 rfl H
          obtain ⟨g0, _, H⟩ := pGo (n1 := 3) rfl (mcb_54 rfl) H
          exact (ih _ (by omega)).2 _ _ _ _  _ H
        · refine pG_neg (c := x5 = x6) g2 ?_
          replace H := pRun (ls' := [.ref 188, .int p1, .int p2, .int x3, .int x4, .int x5, .int x6]) (st' := [.ref 188]) 1 rfl H
          replace H := pGetR (r := 191) (pRf hS (by decide +kernel)) rfl H
          replace H := pRun (ls' := [.ref 188, .int p1, .int p2, .int x3, .int x4, .int x5, .int x6]) (st' := [.int x5, .ref 191]) 1 rfl H
          obtain ⟨g3, H⟩ := pIld (n := 24) (pLt (show pCa 191 24 = true by decide +kernel)) (pLn hS (show pCa 191 24 = true by decide +kernel)) H
          refine pG_gd g3 ?_
          rcases pIf0 (n1 := 11) rfl (mcb_54 rfl) (mcb_54 rfl) H with ⟨g4, g0, _, H⟩ | ⟨g4, g0, _, H⟩
          · refine pG_pos (c := (M 191 (ix x5)) = 0) g4 ?_
            replace H := pRun (ls' := [.ref 188, .int p1, .int p2, .int x3, .int x4, .int x5, .int (x6 + kI 1)]) (st' := []) 1 rfl H
            obtain ⟨g0, _, H⟩ := pGo (n1 := 3) rfl (mcb_54 rfl) H
            exact (ih _ (by omega)).2 _ _ _ _  _ H
          · refine pG_neg (c := (M 191 (ix x5)) = 0) g4 ?_
            replace H := pRun (ls' := [.ref 188, .int p1, .int p2, .int x3, .int x4, .int x5, .int x6]) (st' := [.ref 188]) 1 rfl H
            replace H := pGetR (r := 191) (pRf hS (by decide +kernel)) rfl H
            replace H := pRun (ls' := [.ref 188, .int p1, .int p2, .int x3, .int x4, .int x5, .int x6]) (st' := [.int x6, .ref 191]) 1 rfl H
            obtain ⟨g5, H⟩ := pIld (n := 24) (pLt (show pCa 191 24 = true by decide +kernel)) (pLn hS (show pCa 191 24 = true by decide +kernel)) H
            refine pG_gd g5 ?_
            rcases pIf0 (n1 := 11) rfl (mcb_54 rfl) (mcb_54 rfl) H with ⟨g6, g0, _, H⟩ | ⟨g6, g0, _, H⟩
            · refine pG_pos (c := (M 191 (ix x6)) = 0) g6 ?_
              replace H := pRun (ls' := [.ref 188, .int p1, .int p2, .int x3, .int x4, .int x5, .int (x6 + kI 1)]) (st' := []) 1 rfl H
              obtain ⟨g0, _, H⟩ := pGo (n1 := 3) rfl (mcb_54 rfl) H
              exact (ih _ (by omega)).2 _ _ _ _  _ H
            · refine pG_neg (c := (M 191 (ix x6)) = 0) g6 ?_
              replace H := pRun (ls' := [.ref 188, .int p1, .int p2, .int x3, .int x4, .int x5, .int x6]) (st' := [.ref 188]) 1 rfl H
              replace H := pGetR (r := 189) (pRf hS (by decide +kernel)) rfl H
              replace H := pRun (ls' := [.ref 188, .int p1, .int p2, .int x3, .int x4, .int x5, .int x6]) (st' := [.int x5, .ref 189]) 1 rfl H
              obtain ⟨g7, H⟩ := pIld (n := 24) (pLt (show pCa 189 24 = true by decide +kernel)) (pLn hS (show pCa 189 24 = true by decide +kernel)) H
              refine pG_gd g7 ?_
              replace H := pRun (ls' := [.ref 188, .int p1, .int p2, .int x3, .int x4, .int x5, .int x6]) (st' := [.int p1, .int (M 189 (ix x5))]) 1 rfl H
              rcases pIfc (n1 := 11) rfl (mcb_54 rfl) (mcb_54 rfl) H with ⟨g8, g0, _, H⟩ | ⟨g8, g0, _, H⟩
              · refine pG_pos (c := ¬ (M 189 (ix x5)) = p1) g8 ?_
                replace H := pRun (ls' := [.ref 188, .int p1, .int p2, .int x3, .int x4, .int x5, .int (x6 + kI 1)]) (st' := []) 1 rfl H
                obtain ⟨g0, _, H⟩ := pGo (n1 := 3) rfl (mcb_54 rfl) H
                exact (ih _ (by omega)).2 _ _ _ _  _ H
              · refine pG_neg (c := ¬ (M 189 (ix x5)) = p1) g8 ?_
                replace H := pRun (ls' := [.ref 188, .int p1, .int p2, .int x3, .int x4, .int x5, .int x6]) (st' := [.ref 188]) 1 rfl H
                replace H := pGetR (r := 189) (pRf hS (by decide +kernel)) rfl H
                replace H := pRun (ls' := [.ref 188, .int p1, .int p2, .int x3, .int x4, .int x5, .int x6]) (st' := [.int x6, .ref 189]) 1 rfl H
                obtain ⟨g9, H⟩ := pIld (n := 24) (pLt (show pCa 189 24 = true by decide +kernel)) (pLn hS (show pCa 189 24 = true by decide +kernel)) H
                refine pG_gd g9 ?_
                replace H := pRun (ls' := [.ref 188, .int p1, .int p2, .int x3, .int x4, .int x5, .int x6]) (st' := [.int p2, .int (M 189 (ix x6))]) 1 rfl H
                rcases pIfc (n1 := 10) rfl (mcb_54 rfl) (mcb_54 rfl) H with ⟨g10, g0, _, H⟩ | ⟨g10, g0, _, H⟩
                · refine pG_pos (c := (M 189 (ix x6)) = p2) g10 ?_
                  replace H := pRun (ls' := [.ref 188, .int p1, .int p2, .int x3, .int x4, .int x5, .int x6]) (st' := [.ref 188, .int x3]) 2 rfl H
                  replace H := pGetR (r := 194) (pRf hS (by decide +kernel)) rfl H
                  replace H := pRun (ls' := [.ref 188, .int p1, .int p2, .int x3, .int x4, .int x5, .int x6]) (st' := [.int (((kI 24) * x5) + x6), .ref 194, .int x3]) 5 rfl H
                  obtain ⟨g11, H⟩ := pIld (n := 576) (pLt (show pCa 194 576 = true by decide +kernel)) (pLn hS (show pCa 194 576 = true by decide +kernel)) H
                  refine pG_gd g11 ?_
                  replace H := pRun (ls' := [.ref 188, .int p1, .int p2, .int (x3 + (M 194 (ix (((kI 24) * x5) + x6)))), .int (x4 + (kI 1)), .int x5, .int x6]) (st' := []) 6 rfl H
                  obtain ⟨g0, _, H⟩ := pFall (mcb_54 rfl) H
                  replace H := pRun (ls' := [.ref 188, .int p1, .int p2, .int (x3 + (M 194 (ix (((kI 24) * x5) + x6)))), .int (x4 + (kI 1)), .int x5, .int (x6 + kI 1)]) (st' := []) 1 rfl H
                  obtain ⟨g0, _, H⟩ := pGo (n1 := 3) rfl (mcb_54 rfl) H
                  exact (ih _ (by omega)).2 _ _ _ _  _ H
                · refine pG_neg (c := (M 189 (ix x6)) = p2) g10 ?_
                  obtain ⟨g0, _, H⟩ := pGo (n1 := 11) rfl (mcb_54 rfl) H
                  replace H := pRun (ls' := [.ref 188, .int p1, .int p2, .int x3, .int x4, .int x5, .int (x6 + kI 1)]) (st' := []) 1 rfl H
                  obtain ⟨g0, _, H⟩ := pGo (n1 := 3) rfl (mcb_54 rfl) H
                  exact (ih _ (by omega)).2 _ _ _ _  _ H
theorem L_54_1_ok {X : aX} {F d : Nat} {K : Nat → aK} (hS : pS K) {p1 : Int32} {p2 : Int32} {out : Option Value × aH} {f : Nat} {x3 : Int32} {x4 : Int32} {x5 : Int32} {u6 : Value} {M : pMem} (H : pm X F d 54 f 1 [.iload 5, .aload 0, .getfield 124412008, .if_icmp .ge 13] [.ref 188, .int p1, .int p2, .int x3, .int x4, .int x5, u6] [] (pH K M) out) : pG eI K out (L_54_1 p1 p2 x3 x4 x5 M) := by
  refine pG_all (C := fun P : (Int32 → Int32 → Int32 → pMem → pT Int32) × (Int32 → Int32 → Int32 → Int32 → pMem → pT Int32) => C_54 p1 p2 P.1 P.2) (T := fun P => P.1 x3 x4 x5 M) eI_inj ((fun _ _ _ _ _ _ => True), (fun _ _ _ _ _ _ _ => True)) ?_ (fun P hP => (K_54 hS P.1 P.2 hP f).1 _ _ _ _ _ H)
  exact ⟨(fun _ _ _ _ _ _ _ => trivial), (fun _ _ _ _ _ _ _ _ => trivial)⟩
theorem L_54_3_ok {X : aX} {F d : Nat} {K : Nat → aK} (hS : pS K) {p1 : Int32} {p2 : Int32} {out : Option Value × aH} {f : Nat} {x3 : Int32} {x4 : Int32} {x5 : Int32} {x6 : Int32} {M : pMem} (H : pm X F d 54 f 3 [.iload 6, .aload 0, .getfield 124412008, .if_icmp .ge 12] [.ref 188, .int p1, .int p2, .int x3, .int x4, .int x5, .int x6] [] (pH K M) out) : pG eI K out (L_54_3 p1 p2 x3 x4 x5 x6 M) := by
  refine pG_all (C := fun P : (Int32 → Int32 → Int32 → pMem → pT Int32) × (Int32 → Int32 → Int32 → Int32 → pMem → pT Int32) => C_54 p1 p2 P.1 P.2) (T := fun P => P.2 x3 x4 x5 x6 M) eI_inj ((fun _ _ _ _ _ _ => True), (fun _ _ _ _ _ _ _ => True)) ?_ (fun P hP => (K_54 hS P.1 P.2 hP f).2 _ _ _ _ _ H)
  exact ⟨(fun _ _ _ _ _ _ _ => trivial), (fun _ _ _ _ _ _ _ _ => trivial)⟩
theorem D_54_ok {X : aX} {F d : Nat} {K : Nat → aK} (hS : pS K) {p1 : Int32} {p2 : Int32} {M : pMem} {out : Option Value × aH} (H : aM X F d 54 [.ref 188, .int p1, .int p2] (pH K M) = some out) : pG eI K out (D_54 p1 p2 M) := by
  obtain ⟨d', g0, _, H⟩ := pEnt (n := 7) (ls := [.ref 188, .int p1, .int p2, aD, aD, aD, aD]) (mcb_54 rfl) (by decide +kernel) rfl H
  unfold D_54
  replace H := pRun (ls' := [.ref 188, .int p1, .int p2, .int (kI 0), .int (kI 0), .int (kI 0), aD]) (st' := []) 6 rfl H
  obtain ⟨g0, _, H⟩ := pFall (mcb_54 rfl) H
  exact L_54_1_ok hS  H
def l_54 : List (Nat × Nat) := []
theorem FC_54 {p1 : Int32} {p2 : Int32} : C_54 p1 p2 (fun _ _ _ M _ N => pFr (l_54) M N) (fun _ _ _ _ M _ N => pFr (l_54) M N) := ⟨fun x3 x4 x5 M => show pTf (l_54) M (S_54_1 p1 p2 _ _ x3 x4 x5 M) from (tf_if (tf_ret pFr_refl) (tf_jump pFr_refl)), fun x3 x4 x5 x6 M => show pTf (l_54) M (S_54_3 p1 p2 _ _ x3 x4 x5 x6 M) from (tf_if (tf_jump pFr_refl) (tf_if (tf_jump pFr_refl) (tf_gd fun g3 => (tf_if (tf_jump pFr_refl) (tf_gd fun g5 => (tf_if (tf_jump pFr_refl) (tf_gd fun g7 => (tf_if (tf_jump pFr_refl) (tf_gd fun g9 => (tf_if (tf_gd fun g11 => (tf_jump pFr_refl)) (tf_jump pFr_refl)))))))))))⟩
theorem F_54 {p1 : Int32} {p2 : Int32} {M : pMem} {v : Int32} {N : pMem} (h : D_54 p1 p2 M v N) : pFr (l_54) M N :=
  (show pTf (l_54) M (D_54 p1 p2 M) from (tf_jumpL (fun _ _ _ M _ N => pFr (l_54) M N, fun _ _ _ _ M _ N => pFr (l_54) M N) (FC_54) rfl pFr_refl)) v N h
/-- TwoCampsModel.cross()I -/
def S_55_1 (P1 : Int32 → Int32 → Int32 → pMem → pT Int32) (P3 : Int32 → Int32 → Int32 → Int32 → pMem → pT Int32) (x1 : Int32) (x2 : Int32) (x3 : Int32) (M : pMem) : pT Int32 := tIf ((M 188 2) ≤ x3) (tRet (f_43 x1 x2) M) (P3 x1 x2 x3 (kI 0) M)
def S_55_3 (P1 : Int32 → Int32 → Int32 → pMem → pT Int32) (P3 : Int32 → Int32 → Int32 → Int32 → pMem → pT Int32) (x1 : Int32) (x2 : Int32) (x3 : Int32) (x4 : Int32) (M : pMem) : pT Int32 := tIf ((M 188 2) ≤ x4) (P1 x1 x2 (x3 + kI 1) M) (tGd (pIn x3 24) <| tIf ((M 191 (ix x3)) = 0) (P3 x1 x2 x3 (x4 + kI 1) M) (tGd (pIn x4 24) <| tIf ((M 191 (ix x4)) = 0) (P3 x1 x2 x3 (x4 + kI 1) M) (tGd (pIn x3 24) <| tGd (pIn x4 24) <| tIf (¬ (M 189 (ix x3)) = (M 189 (ix x4))) (tGd (pIn (((kI 24) * x3) + x4) 576) <| P3 (x1 + (M 194 (ix (((kI 24) * x3) + x4)))) (x2 + (kI 1)) x3 (x4 + kI 1) M) (P3 x1 x2 x3 (x4 + kI 1) M))))
def C_55 (P1 : Int32 → Int32 → Int32 → pMem → pT Int32) (P3 : Int32 → Int32 → Int32 → Int32 → pMem → pT Int32) : Prop := (∀ (x1 : Int32) (x2 : Int32) (x3 : Int32) M v N, S_55_1 P1 P3 x1 x2 x3 M v N → P1 x1 x2 x3 M v N) ∧ (∀ (x1 : Int32) (x2 : Int32) (x3 : Int32) (x4 : Int32) M v N, S_55_3 P1 P3 x1 x2 x3 x4 M v N → P3 x1 x2 x3 x4 M v N)
def L_55_1 (x1 : Int32) (x2 : Int32) (x3 : Int32) (M : pMem) : pT Int32 := fun v N => ∀ P : (Int32 → Int32 → Int32 → pMem → pT Int32) × (Int32 → Int32 → Int32 → Int32 → pMem → pT Int32), C_55 P.1 P.2 → P.1 x1 x2 x3 M v N
def L_55_3 (x1 : Int32) (x2 : Int32) (x3 : Int32) (x4 : Int32) (M : pMem) : pT Int32 := fun v N => ∀ P : (Int32 → Int32 → Int32 → pMem → pT Int32) × (Int32 → Int32 → Int32 → Int32 → pMem → pT Int32), C_55 P.1 P.2 → P.2 x1 x2 x3 x4 M v N
def D_55 (M : pMem) : pT Int32 := L_55_1 (kI 0) (kI 0) (kI 0) M
theorem K_55 {X : aX} {F d : Nat} {K : Nat → aK} (hS : pS K) {out : Option Value × aH} (P1 : Int32 → Int32 → Int32 → pMem → pT Int32) (P3 : Int32 → Int32 → Int32 → Int32 → pMem → pT Int32) (hC : C_55 P1 P3) : ∀ f, (∀ (x1 : Int32) (x2 : Int32) (x3 : Int32) (u4 : Value) M, pm X F d 55 f 1 [.iload 3, .aload 0, .getfield 124412008, .if_icmp .ge 11] [.ref 188, .int x1, .int x2, .int x3, u4] [] (pH K M) out → pG eI K out (P1 x1 x2 x3 M)) ∧ (∀ (x1 : Int32) (x2 : Int32) (x3 : Int32) (x4 : Int32) M, pm X F d 55 f 3 [.iload 4, .aload 0, .getfield 124412008, .if_icmp .ge 10] [.ref 188, .int x1, .int x2, .int x3, .int x4] [] (pH K M) out → pG eI K out (P3 x1 x2 x3 x4 M)) := by
  intro f
  induction f using Nat.strongRecOn with
  | _ f ih =>
    refine ⟨?_, ?_⟩
    · intro x1 x2 x3 u4 M H
      refine pG_mono (fun v N h => hC.1 x1 x2 x3 M v N h) ?_
      unfold S_55_1
      replace H := pRun (ls' := [.ref 188, .int x1, .int x2, .int x3, u4]) (st' := [.ref 188, .int x3]) 2 rfl H
      replace H := pGetN (v := M 188 2) rfl (by decide) H
      rcases pIfc (n1 := 11) rfl (mcb_55 rfl) (mcb_55 rfl) H with ⟨g1, g0, _, H⟩ | ⟨g1, g0, _, H⟩
      · refine pG_pos (c := (M 188 2) ≤ x3) g1 ?_
        replace H := pRun (ls' := [.ref 188, .int x1, .int x2, .int x3, u4]) (st' := [.int x2, .int x1, .ref 188]) 3 rfl H
        obtain ⟨rv, h1, hc, H⟩ := pCalV 43 2 188 (as := [.int x1, .int x2]) (rest := []) rfl (by decide) (by decide +kernel) rfl rfl H
        replace H := pUseF (f_43_ok hS hc) H
        exact pG_ret (pRetI H)
      · refine pG_neg (c := (M 188 2) ≤ x3) g1 ?_
        replace H := pRun (ls' := [.ref 188, .int x1, .int x2, .int x3, .int (kI 0)]) (st' := []) 2 rfl H
        obtain ⟨g0, _, H⟩ := pFall (mcb_55 rfl) H
        exact (ih _ (by omega)).2 _ _ _ _  _ H
    · intro x1 x2 x3 x4 M H
      refine pG_mono (fun v N h => hC.2 x1 x2 x3 x4 M v N h) ?_
      unfold S_55_3
      replace H := pRun (ls' := [.ref 188, .int x1, .int x2, .int x3, .int x4]) (st' := [.ref 188, .int x4]) 2 rfl H
      replace H := pGetN (v := M 188 2) rfl (by decide) H
      rcases pIfc (n1 := 10) rfl (mcb_55 rfl) (mcb_55 rfl) H with ⟨g1, g0, _, H⟩ | ⟨g1, g0, _, H⟩
      · refine pG_pos (c := (M 188 2) ≤ x4) g1 ?_
        replace H := pRun (ls' := [.ref 188, .int x1, .int x2, .int (x3 + kI 1), .int x4]) (st' := []) 1 rfl H
        obtain ⟨g0, _, H⟩ := pGo (n1 := 1) rfl (mcb_55 rfl) H
        exact (ih _ (by omega)).1 _ _ _ _  _ H
      · refine pG_neg (c := (M 188 2) ≤ x4) g1 ?_
        replace H := pRun (ls' := [.ref 188, .int x1, .int x2, .int x3, .int x4]) (st' := [.ref 188]) 1 rfl H
        replace H := pGetR (r := 191) (pRf hS (by decide +kernel)) rfl H
        replace H := pRun (ls' := [.ref 188, .int x1, .int x2, .int x3, .int x4]) (st' := [.int x3, .ref 191]) 1 rfl H
        obtain ⟨g2, H⟩ := pIld (n := 24) (pLt (show pCa 191 24 = true by decide +kernel)) (pLn hS (show pCa 191 24 = true by decide +kernel)) H
        refine pG_gd g2 ?_
        rcases pIf0 (n1 := 9) rfl (mcb_55 rfl) (mcb_55 rfl) H with ⟨g3, g0, _, H⟩ | ⟨g3, g0, _, H⟩
        · refine pG_pos (c := (M 191 (ix x3)) = 0) g3 ?_
          replace H := pRun (ls' := [.ref 188, .int x1, .int x2, .int x3, .int (x4 + kI 1)]) (st' := []) 1 rfl H
          obtain ⟨g0, _, H⟩ := pGo (n1 := 3) rfl (mcb_55 rfl) H
          exact (ih _ (by omega)).2 _ _ _ _  _ H
        · refine pG_neg (c := (M 191 (ix x3)) = 0) g3 ?_
          replace H := pRun (ls' := [.ref 188, .int x1, .int x2, .int x3, .int x4]) (st' := [.ref 188]) 1 rfl H
          replace H := pGetR (r := 191) (pRf hS (by decide +kernel)) rfl H
          replace H := pRun (ls' := [.ref 188, .int x1, .int x2, .int x3, .int x4]) (st' := [.int x4, .ref 191]) 1 rfl H
          obtain ⟨g4, H⟩ := pIld (n := 24) (pLt (show pCa 191 24 = true by decide +kernel)) (pLn hS (show pCa 191 24 = true by decide +kernel)) H
          refine pG_gd g4 ?_
          rcases pIf0 (n1 := 9) rfl (mcb_55 rfl) (mcb_55 rfl) H with ⟨g5, g0, _, H⟩ | ⟨g5, g0, _, H⟩
          · refine pG_pos (c := (M 191 (ix x4)) = 0) g5 ?_
            replace H := pRun (ls' := [.ref 188, .int x1, .int x2, .int x3, .int (x4 + kI 1)]) (st' := []) 1 rfl H
            obtain ⟨g0, _, H⟩ := pGo (n1 := 3) rfl (mcb_55 rfl) H
            exact (ih _ (by omega)).2 _ _ _ _  _ H
          · refine pG_neg (c := (M 191 (ix x4)) = 0) g5 ?_
            replace H := pRun (ls' := [.ref 188, .int x1, .int x2, .int x3, .int x4]) (st' := [.ref 188]) 1 rfl H
            replace H := pGetR (r := 189) (pRf hS (by decide +kernel)) rfl H
            replace H := pRun (ls' := [.ref 188, .int x1, .int x2, .int x3, .int x4]) (st' := [.int x3, .ref 189]) 1 rfl H
            obtain ⟨g6, H⟩ := pIld (n := 24) (pLt (show pCa 189 24 = true by decide +kernel)) (pLn hS (show pCa 189 24 = true by decide +kernel)) H
            refine pG_gd g6 ?_
            replace H := pRun (ls' := [.ref 188, .int x1, .int x2, .int x3, .int x4]) (st' := [.ref 188, .int (M 189 (ix x3))]) 1 rfl H
            replace H := pGetR (r := 189) (pRf hS (by decide +kernel)) rfl H
            replace H := pRun (ls' := [.ref 188, .int x1, .int x2, .int x3, .int x4]) (st' := [.int x4, .ref 189, .int (M 189 (ix x3))]) 1 rfl H
            obtain ⟨g7, H⟩ := pIld (n := 24) (pLt (show pCa 189 24 = true by decide +kernel)) (pLn hS (show pCa 189 24 = true by decide +kernel)) H
            refine pG_gd g7 ?_
            rcases pIfc (n1 := 8) rfl (mcb_55 rfl) (mcb_55 rfl) H with ⟨g8, g0, _, H⟩ | ⟨g8, g0, _, H⟩
            · refine pG_pos (c := ¬ (M 189 (ix x3)) = (M 189 (ix x4))) g8 ?_
              replace H := pRun (ls' := [.ref 188, .int x1, .int x2, .int x3, .int x4]) (st' := [.ref 188, .int x1]) 2 rfl H
              replace H := pGetR (r := 194) (pRf hS (by decide +kernel)) rfl H
              replace H := pRun (ls' := [.ref 188, .int x1, .int x2, .int x3, .int x4]) (st' := [.int (((kI 24) * x3) + x4), .ref 194, .int x1]) 5 rfl H
              obtain ⟨g9, H⟩ := pIld (n := 576) (pLt (show pCa 194 576 = true by decide +kernel)) (pLn hS (show pCa 194 576 = true by decide +kernel)) H
              refine pG_gd g9 ?_
              replace H := pRun (ls' := [.ref 188, .int (x1 + (M 194 (ix (((kI 24) * x3) + x4)))), .int (x2 + (kI 1)), .int x3, .int x4]) (st' := []) 6 rfl H
              obtain ⟨g0, _, H⟩ := pFall (mcb_55 rfl) H
              replace H := pRun (ls' := [.ref 188, .int (x1 + (M 194 (ix (((kI 24) * x3) + x4)))), .int (x2 + (kI 1)), .int x3, .int (x4 + kI 1)]) (st' := []) 1 rfl H
              obtain ⟨g0, _, H⟩ := pGo (n1 := 3) rfl (mcb_55 rfl) H
              exact (ih _ (by omega)).2 _ _ _ _  _ H
            · refine pG_neg (c := ¬ (M 189 (ix x3)) = (M 189 (ix x4))) g8 ?_
              obtain ⟨g0, _, H⟩ := pGo (n1 := 9) rfl (mcb_55 rfl) H
              replace H := pRun (ls' := [.ref 188, .int x1, .int x2, .int x3, .int (x4 + kI 1)]) (st' := []) 1 rfl H
              obtain ⟨g0, _, H⟩ := pGo (n1 := 3) rfl (mcb_55 rfl) H
              exact (ih _ (by omega)).2 _ _ _ _  _ H
theorem L_55_1_ok {X : aX} {F d : Nat} {K : Nat → aK} (hS : pS K) {out : Option Value × aH} {f : Nat} {x1 : Int32} {x2 : Int32} {x3 : Int32} {u4 : Value} {M : pMem} (H : pm X F d 55 f 1 [.iload 3, .aload 0, .getfield 124412008, .if_icmp .ge 11] [.ref 188, .int x1, .int x2, .int x3, u4] [] (pH K M) out) : pG eI K out (L_55_1 x1 x2 x3 M) := by
  refine pG_all (C := fun P : (Int32 → Int32 → Int32 → pMem → pT Int32) × (Int32 → Int32 → Int32 → Int32 → pMem → pT Int32) => C_55 P.1 P.2) (T := fun P => P.1 x1 x2 x3 M) eI_inj ((fun _ _ _ _ _ _ => True), (fun _ _ _ _ _ _ _ => True)) ?_ (fun P hP => (K_55 hS P.1 P.2 hP f).1 _ _ _ _ _ H)
  exact ⟨(fun _ _ _ _ _ _ _ => trivial), (fun _ _ _ _ _ _ _ _ => trivial)⟩
theorem L_55_3_ok {X : aX} {F d : Nat} {K : Nat → aK} (hS : pS K) {out : Option Value × aH} {f : Nat} {x1 : Int32} {x2 : Int32} {x3 : Int32} {x4 : Int32} {M : pMem} (H : pm X F d 55 f 3 [.iload 4, .aload 0, .getfield 124412008, .if_icmp .ge 10] [.ref 188, .int x1, .int x2, .int x3, .int x4] [] (pH K M) out) : pG eI K out (L_55_3 x1 x2 x3 x4 M) := by
  refine pG_all (C := fun P : (Int32 → Int32 → Int32 → pMem → pT Int32) × (Int32 → Int32 → Int32 → Int32 → pMem → pT Int32) => C_55 P.1 P.2) (T := fun P => P.2 x1 x2 x3 x4 M) eI_inj ((fun _ _ _ _ _ _ => True), (fun _ _ _ _ _ _ _ => True)) ?_ (fun P hP => (K_55 hS P.1 P.2 hP f).2 _ _ _ _ _ H)
  exact ⟨(fun _ _ _ _ _ _ _ => trivial), (fun _ _ _ _ _ _ _ _ => trivial)⟩
theorem D_55_ok {X : aX} {F d : Nat} {K : Nat → aK} (hS : pS K) {M : pMem} {out : Option Value × aH} (H : aM X F d 55 [.ref 188] (pH K M) = some out) : pG eI K out (D_55 M) := by
  obtain ⟨d', g0, _, H⟩ := pEnt (n := 5) (ls := [.ref 188, aD, aD, aD, aD]) (mcb_55 rfl) (by decide +kernel) rfl H
  unfold D_55
  replace H := pRun (ls' := [.ref 188, .int (kI 0), .int (kI 0), .int (kI 0), aD]) (st' := []) 6 rfl H
  obtain ⟨g0, _, H⟩ := pFall (mcb_55 rfl) H
  exact L_55_1_ok hS  H
def l_55 : List (Nat × Nat) := []
theorem FC_55 : C_55 (fun _ _ _ M _ N => pFr (l_55) M N) (fun _ _ _ _ M _ N => pFr (l_55) M N) := ⟨fun x1 x2 x3 M => show pTf (l_55) M (S_55_1 _ _ x1 x2 x3 M) from (tf_if (tf_ret pFr_refl) (tf_jump pFr_refl)), fun x1 x2 x3 x4 M => show pTf (l_55) M (S_55_3 _ _ x1 x2 x3 x4 M) from (tf_if (tf_jump pFr_refl) (tf_gd fun g2 => (tf_if (tf_jump pFr_refl) (tf_gd fun g4 => (tf_if (tf_jump pFr_refl) (tf_gd fun g6 => (tf_gd fun g7 => (tf_if (tf_gd fun g9 => (tf_jump pFr_refl)) (tf_jump pFr_refl)))))))))⟩
theorem F_55 {M : pMem} {v : Int32} {N : pMem} (h : D_55 M v N) : pFr (l_55) M N :=
  (show pTf (l_55) M (D_55 M) from (tf_jumpL (fun _ _ _ M _ N => pFr (l_55) M N, fun _ _ _ _ M _ N => pFr (l_55) M N) (FC_55) rfl pFr_refl)) v N h
/-- TwoCampsModel.meanFor(II)I -/
def S_56_1 (p1 : Int32) (p2 : Int32) (P1 : Int32 → Int32 → Int32 → pMem → pT Int32) (x3 : Int32) (x4 : Int32) (x5 : Int32) (M : pMem) : pT Int32 := tIf ((M 188 2) ≤ x5) (tRet (f_43 x3 x4) M) (tIf (x5 = p1) (P1 x3 x4 (x5 + kI 1) M) (tGd (pIn x5 24) <| tIf ((M 191 (ix x5)) = 0) (P1 x3 x4 (x5 + kI 1) M) (tGd (pIn x5 24) <| tGd (pIn p1 24) <| tIf (¬ (M 189 (ix x5)) = (M 189 (ix p1))) (tIf (p2 = (kI 1)) (tIf (¬ p2 = (kI 2)) (tGd (pIn (((kI 24) * x5) + p1) 576) <| P1 (x3 + (M 194 (ix (((kI 24) * x5) + p1)))) (x4 + (kI 1)) (x5 + kI 1) M) (tGd (pIn (((kI 24) * p1) + x5) 576) <| P1 (x3 + (M 194 (ix (((kI 24) * p1) + x5)))) (x4 + (kI 1)) (x5 + kI 1) M)) (P1 x3 x4 (x5 + kI 1) M)) (tIf (p2 = (kI 1)) (P1 x3 x4 (x5 + kI 1) M) (tIf (¬ p2 = (kI 2)) (tGd (pIn (((kI 24) * x5) + p1) 576) <| P1 (x3 + (M 194 (ix (((kI 24) * x5) + p1)))) (x4 + (kI 1)) (x5 + kI 1) M) (tGd (pIn (((kI 24) * p1) + x5) 576) <| P1 (x3 + (M 194 (ix (((kI 24) * p1) + x5)))) (x4 + (kI 1)) (x5 + kI 1) M))))))
def C_56 (p1 : Int32) (p2 : Int32) (P1 : Int32 → Int32 → Int32 → pMem → pT Int32) : Prop := (∀ (x3 : Int32) (x4 : Int32) (x5 : Int32) M v N, S_56_1 p1 p2 P1 x3 x4 x5 M v N → P1 x3 x4 x5 M v N)
def L_56_1 (p1 : Int32) (p2 : Int32) (x3 : Int32) (x4 : Int32) (x5 : Int32) (M : pMem) : pT Int32 := fun v N => ∀ P : (Int32 → Int32 → Int32 → pMem → pT Int32), C_56 p1 p2 P → P x3 x4 x5 M v N
def D_56 (p1 : Int32) (p2 : Int32) (M : pMem) : pT Int32 := L_56_1 p1 p2 (kI 0) (kI 0) (kI 0) M
theorem K_56 {X : aX} {F d : Nat} {K : Nat → aK} (hS : pS K) {p1 : Int32} {p2 : Int32} {out : Option Value × aH} (P1 : Int32 → Int32 → Int32 → pMem → pT Int32) (hC : C_56 p1 p2 P1) : ∀ f, (∀ (x3 : Int32) (x4 : Int32) (x5 : Int32) M, pm X F d 56 f 1 [.iload 5, .aload 0, .getfield 124412008, .if_icmp .ge 17] [.ref 188, .int p1, .int p2, .int x3, .int x4, .int x5] [] (pH K M) out → pG eI K out (P1 x3 x4 x5 M)) := by
  intro f
  induction f using Nat.strongRecOn with
  | _ f ih =>
    intro x3 x4 x5 M H
    refine pG_mono (fun v N h => hC x3 x4 x5 M v N h) ?_
    unfold S_56_1
    replace H := pRun (ls' := [.ref 188, .int p1, .int p2, .int x3, .int x4, .int x5]) (st' := [.ref 188, .int x5]) 2 rfl H
    replace H := pGetN (v := M 188 2) rfl (by decide) H
    rcases pIfc (n1 := 17) rfl (mcb_56 rfl) (mcb_56 rfl) H with ⟨g1, g0, _, H⟩ | ⟨g1, g0, _, H⟩
    · refine pG_pos (c := (M 188 2) ≤ x5) g1 ?_
      replace H := pRun (ls' := [.ref 188, .int p1, .int p2, .int x3, .int x4, .int x5]) (st' := [.int x4, .int x3, .ref 188]) 3 rfl H
      obtain ⟨rv, h1, hc, H⟩ := pCalV 43 2 188 (as := [.int x3, .int x4]) (rest := []) rfl (by decide) (by decide +kernel) rfl rfl H
      replace H := pUseF (f_43_ok hS hc) H
      exact pG_ret (pRetI H)
    · refine pG_neg (c := (M 188 2) ≤ x5) g1 ?_
      replace H := pRun (ls' := [.ref 188, .int p1, .int p2, .int x3, .int x4, .int x5]) (st' := [.int p1, .int x5]) 2 rfl H
      rcases pIfc (n1 := 16) rfl (mcb_56 rfl) (mcb_56 rfl) H with ⟨g2, g0, _, H⟩ | ⟨g2, g0, _, H⟩
      · refine pG_pos (c := x5 = p1) g2 ?_
        replace H := pRun (ls' := [.ref 188, .int p1, .int p2, .int x3, .int x4, .int (x5 + kI 1)]) (st' := []) 1 rfl H
        obtain ⟨g0, _, H⟩ := pGo (n1 := 1) rfl (mcb_56 rfl) H
        exact (ih _ (by omega)) _ _ _  _ H
      · refine pG_neg (c := x5 = p1) g2 ?_
        replace H := pRun (ls' := [.ref 188, .int p1, .int p2, .int x3, .int x4, .int x5]) (st' := [.ref 188]) 1 rfl H
        replace H := pGetR (r := 191) (pRf hS (by decide +kernel)) rfl H
        replace H := pRun (ls' := [.ref 188, .int p1, .int p2, .int x3, .int x4, .int x5]) (st' := [.int x5, .ref 191]) 1 rfl H
        obtain ⟨g3, H⟩ := pIld (n := 24) (pLt (show pCa 191 24 = true by decide +kernel)) (pLn hS (show pCa 191 24 = true by decide +kernel)) H
        refine pG_gd g3 ?_
        rcases pIf0 (n1 := 16) rfl (mcb_56 rfl) (mcb_56 rfl) H with ⟨g4, g0, _, H⟩ | ⟨g4, g0, _, H⟩
        · refine pG_pos (c := (M 191 (ix x5)) = 0) g4 ?_
          replace H := pRun (ls' := [.ref 188, .int p1, .int p2, .int x3, .int x4, .int (x5 + kI 1)]) (st' := []) 1 rfl H
          obtain ⟨g0, _, H⟩ := pGo (n1 := 1) rfl (mcb_56 rfl) H
          exact (ih _ (by omega)) _ _ _  _ H
        · refine pG_neg (c := (M 191 (ix x5)) = 0) g4 ?_
          replace H := pRun (ls' := [.ref 188, .int p1, .int p2, .int x3, .int x4, .int x5]) (st' := [.ref 188]) 1 rfl H
          replace H := pGetR (r := 189) (pRf hS (by decide +kernel)) rfl H
          replace H := pRun (ls' := [.ref 188, .int p1, .int p2, .int x3, .int x4, .int x5]) (st' := [.int x5, .ref 189]) 1 rfl H
          obtain ⟨g5, H⟩ := pIld (n := 24) (pLt (show pCa 189 24 = true by decide +kernel)) (pLn hS (show pCa 189 24 = true by decide +kernel)) H
          refine pG_gd g5 ?_
          replace H := pRun (ls' := [.ref 188, .int p1, .int p2, .int x3, .int x4, .int x5]) (st' := [.ref 188, .int (M 189 (ix x5))]) 1 rfl H
          replace H := pGetR (r := 189) (pRf hS (by decide +kernel)) rfl H
          replace H := pRun (ls' := [.ref 188, .int p1, .int p2, .int x3, .int x4, .int x5]) (st' := [.int p1, .ref 189, .int (M 189 (ix x5))]) 1 rfl H
          obtain ⟨g6, H⟩ := pIld (n := 24) (pLt (show pCa 189 24 = true by decide +kernel)) (pLn hS (show pCa 189 24 = true by decide +kernel)) H
          refine pG_gd g6 ?_
          rcases pIfc (n1 := 6) rfl (mcb_56 rfl) (mcb_56 rfl) H with ⟨g7, g0, _, H⟩ | ⟨g7, g0, _, H⟩
          · refine pG_pos (c := ¬ (M 189 (ix x5)) = (M 189 (ix p1))) g7 ?_
            replace H := pRun (ls' := [.ref 188, .int p1, .int p2, .int x3, .int x4, .int x5]) (st' := [.int (kI 0)]) 1 rfl H
            obtain ⟨g0, _, H⟩ := pFall (mcb_56 rfl) H
            replace H := pRun (ls' := [.ref 188, .int p1, .int p2, .int x3, .int x4, .int x5]) (st' := [.int (kI 1), .int p2, .int (kI 0)]) 2 rfl H
            rcases pIfc (n1 := 9) rfl (mcb_56 rfl) (mcb_56 rfl) H with ⟨g8, g0, _, H⟩ | ⟨g8, g0, _, H⟩
            · refine pG_pos (c := p2 = (kI 1)) g8 ?_
              replace H := pRun (ls' := [.ref 188, .int p1, .int p2, .int x3, .int x4, .int x5]) (st' := [.int (kI 0), .int (kI 0)]) 1 rfl H
              obtain ⟨g0, _, H⟩ := pFall (mcb_56 rfl) H
              rcases pIfc (n1 := 12) rfl (mcb_56 rfl) (mcb_56 rfl) H with ⟨g9, g0, _, H⟩ | ⟨g9, g0, _, H⟩
              · replace H := pRun (ls' := [.ref 188, .int p1, .int p2, .int x3, .int x4, .int x5]) (st' := [.int (kI 2), .int p2, .int x3]) 3 rfl H
                rcases pIfc (n1 := 14) rfl (mcb_56 rfl) (mcb_56 rfl) H with ⟨g10, g0, _, H⟩ | ⟨g10, g0, _, H⟩
                · refine pG_pos (c := ¬ p2 = (kI 2)) g10 ?_
                  replace H := pRun (ls' := [.ref 188, .int p1, .int p2, .int x3, .int x4, .int x5]) (st' := [.ref 188, .int x3]) 1 rfl H
                  replace H := pGetR (r := 194) (pRf hS (by decide +kernel)) rfl H
                  replace H := pRun (ls' := [.ref 188, .int p1, .int p2, .int x3, .int x4, .int x5]) (st' := [.int (((kI 24) * x5) + p1), .ref 194, .int x3]) 5 rfl H
                  obtain ⟨g11, H⟩ := pIld (n := 576) (pLt (show pCa 194 576 = true by decide +kernel)) (pLn hS (show pCa 194 576 = true by decide +kernel)) H
                  refine pG_gd g11 ?_
                  obtain ⟨g0, _, H⟩ := pFall (mcb_56 rfl) H
                  replace H := pRun (ls' := [.ref 188, .int p1, .int p2, .int (x3 + (M 194 (ix (((kI 24) * x5) + p1)))), .int (x4 + (kI 1)), .int x5]) (st' := []) 6 rfl H
                  obtain ⟨g0, _, H⟩ := pFall (mcb_56 rfl) H
                  replace H := pRun (ls' := [.ref 188, .int p1, .int p2, .int (x3 + (M 194 (ix (((kI 24) * x5) + p1)))), .int (x4 + (kI 1)), .int (x5 + kI 1)]) (st' := []) 1 rfl H
                  obtain ⟨g0, _, H⟩ := pGo (n1 := 1) rfl (mcb_56 rfl) H
                  exact (ih _ (by omega)) _ _ _  _ H
                · refine pG_neg (c := ¬ p2 = (kI 2)) g10 ?_
                  replace H := pRun (ls' := [.ref 188, .int p1, .int p2, .int x3, .int x4, .int x5]) (st' := [.ref 188, .int x3]) 1 rfl H
                  replace H := pGetR (r := 194) (pRf hS (by decide +kernel)) rfl H
                  replace H := pRun (ls' := [.ref 188, .int p1, .int p2, .int x3, .int x4, .int x5]) (st' := [.int (((kI 24) * p1) + x5), .ref 194, .int x3]) 5 rfl H
                  obtain ⟨g11, H⟩ := pIld (n := 576) (pLt (show pCa 194 576 = true by decide +kernel)) (pLn hS (show pCa 194 576 = true by decide +kernel)) H
                  refine pG_gd g11 ?_
                  obtain ⟨g0, _, H⟩ := pGo (n1 := 15) rfl (mcb_56 rfl) H
                  replace H := pRun (ls' := [.ref 188, .int p1, .int p2, .int (x3 + (M 194 (ix (((kI 24) * p1) + x5)))), .int (x4 + (kI 1)), .int x5]) (st' := []) 6 rfl H
                  obtain ⟨g0, _, H⟩ := pFall (mcb_56 rfl) H
                  replace H := pRun (ls' := [.ref 188, .int p1, .int p2, .int (x3 + (M 194 (ix (((kI 24) * p1) + x5)))), .int (x4 + (kI 1)), .int (x5 + kI 1)]) (st' := []) 1 rfl H
                  obtain ⟨g0, _, H⟩ := pGo (n1 := 1) rfl (mcb_56 rfl) H
                  exact (ih _ (by omega)) _ _ _  _ H
              · exact absurd (show ¬ ((kI 0) = (kI 0)) from g9) (by decide)
            · refine pG_neg (c := p2 = (kI 1)) g8 ?_
              replace H := pRun (ls' := [.ref 188, .int p1, .int p2, .int x3, .int x4, .int x5]) (st' := [.int (kI 1), .int (kI 0)]) 1 rfl H
              obtain ⟨g0, _, H⟩ := pGo (n1 := 10) rfl (mcb_56 rfl) H
              rcases pIfc (n1 := 12) rfl (mcb_56 rfl) (mcb_56 rfl) H with ⟨g9, g0, _, H⟩ | ⟨g9, g0, _, H⟩
              · exact absurd (show (kI 0) = (kI 1) from g9) (by decide)
              · obtain ⟨g0, _, H⟩ := pGo (n1 := 16) rfl (mcb_56 rfl) H
                replace H := pRun (ls' := [.ref 188, .int p1, .int p2, .int x3, .int x4, .int (x5 + kI 1)]) (st' := []) 1 rfl H
                obtain ⟨g0, _, H⟩ := pGo (n1 := 1) rfl (mcb_56 rfl) H
                exact (ih _ (by omega)) _ _ _  _ H
          · refine pG_neg (c := ¬ (M 189 (ix x5)) = (M 189 (ix p1))) g7 ?_
            replace H := pRun (ls' := [.ref 188, .int p1, .int p2, .int x3, .int x4, .int x5]) (st' := [.int (kI 1)]) 1 rfl H
            obtain ⟨g0, _, H⟩ := pGo (n1 := 7) rfl (mcb_56 rfl) H
            replace H := pRun (ls' := [.ref 188, .int p1, .int p2, .int x3, .int x4, .int x5]) (st' := [.int (kI 1), .int p2, .int (kI 1)]) 2 rfl H
            rcases pIfc (n1 := 9) rfl (mcb_56 rfl) (mcb_56 rfl) H with ⟨g8, g0, _, H⟩ | ⟨g8, g0, _, H⟩
            · refine pG_pos (c := p2 = (kI 1)) g8 ?_
              replace H := pRun (ls' := [.ref 188, .int p1, .int p2, .int x3, .int x4, .int x5]) (st' := [.int (kI 0), .int (kI 1)]) 1 rfl H
              obtain ⟨g0, _, H⟩ := pFall (mcb_56 rfl) H
              rcases pIfc (n1 := 12) rfl (mcb_56 rfl) (mcb_56 rfl) H with ⟨g9, g0, _, H⟩ | ⟨g9, g0, _, H⟩
              · exact absurd (show (kI 1) = (kI 0) from g9) (by decide)
              · obtain ⟨g0, _, H⟩ := pGo (n1 := 16) rfl (mcb_56 rfl) H
                replace H := pRun (ls' := [.ref 188, .int p1, .int p2, .int x3, .int x4, .int (x5 + kI 1)]) (st' := []) 1 rfl H
                obtain ⟨g0, _, H⟩ := pGo (n1 := 1) rfl (mcb_56 rfl) H
                exact (ih _ (by omega)) _ _ _  _ H
            · refine pG_neg (c := p2 = (kI 1)) g8 ?_
              replace H := pRun (ls' := [.ref 188, .int p1, .int p2, .int x3, .int x4, .int x5]) (st' := [.int (kI 1), .int (kI 1)]) 1 rfl H
              obtain ⟨g0, _, H⟩ := pGo (n1 := 10) rfl (mcb_56 rfl) H
              rcases pIfc (n1 := 12) rfl (mcb_56 rfl) (mcb_56 rfl) H with ⟨g9, g0, _, H⟩ | ⟨g9, g0, _, H⟩
              · replace H := pRun (ls' := [.ref 188, .int p1, .int p2, .int x3, .int x4, .int x5]) (st' := [.int (kI 2), .int p2, .int x3]) 3 rfl H
                rcases pIfc (n1 := 14) rfl (mcb_56 rfl) (mcb_56 rfl) H with ⟨g10, g0, _, H⟩ | ⟨g10, g0, _, H⟩
                · refine pG_pos (c := ¬ p2 = (kI 2)) g10 ?_
                  replace H := pRun (ls' := [.ref 188, .int p1, .int p2, .int x3, .int x4, .int x5]) (st' := [.ref 188, .int x3]) 1 rfl H
                  replace H := pGetR (r := 194) (pRf hS (by decide +kernel)) rfl H
                  replace H := pRun (ls' := [.ref 188, .int p1, .int p2, .int x3, .int x4, .int x5]) (st' := [.int (((kI 24) * x5) + p1), .ref 194, .int x3]) 5 rfl H
                  obtain ⟨g11, H⟩ := pIld (n := 576) (pLt (show pCa 194 576 = true by decide +kernel)) (pLn hS (show pCa 194 576 = true by decide +kernel)) H
                  refine pG_gd g11 ?_
                  obtain ⟨g0, _, H⟩ := pFall (mcb_56 rfl) H
                  replace H := pRun (ls' := [.ref 188, .int p1, .int p2, .int (x3 + (M 194 (ix (((kI 24) * x5) + p1)))), .int (x4 + (kI 1)), .int x5]) (st' := []) 6 rfl H
                  obtain ⟨g0, _, H⟩ := pFall (mcb_56 rfl) H
                  replace H := pRun (ls' := [.ref 188, .int p1, .int p2, .int (x3 + (M 194 (ix (((kI 24) * x5) + p1)))), .int (x4 + (kI 1)), .int (x5 + kI 1)]) (st' := []) 1 rfl H
                  obtain ⟨g0, _, H⟩ := pGo (n1 := 1) rfl (mcb_56 rfl) H
                  exact (ih _ (by omega)) _ _ _  _ H
                · refine pG_neg (c := ¬ p2 = (kI 2)) g10 ?_
                  replace H := pRun (ls' := [.ref 188, .int p1, .int p2, .int x3, .int x4, .int x5]) (st' := [.ref 188, .int x3]) 1 rfl H
                  replace H := pGetR (r := 194) (pRf hS (by decide +kernel)) rfl H
                  replace H := pRun (ls' := [.ref 188, .int p1, .int p2, .int x3, .int x4, .int x5]) (st' := [.int (((kI 24) * p1) + x5), .ref 194, .int x3]) 5 rfl H
                  obtain ⟨g11, H⟩ := pIld (n := 576) (pLt (show pCa 194 576 = true by decide +kernel)) (pLn hS (show pCa 194 576 = true by decide +kernel)) H
                  refine pG_gd g11 ?_
                  obtain ⟨g0, _, H⟩ := pGo (n1 := 15) rfl (mcb_56 rfl) H
                  replace H := pRun (ls' := [.ref 188, .int p1, .int p2, .int (x3 + (M 194 (ix (((kI 24) * p1) + x5)))), .int (x4 + (kI 1)), .int x5]) (st' := []) 6 rfl H
                  obtain ⟨g0, _, H⟩ := pFall (mcb_56 rfl) H
                  replace H := pRun (ls' := [.ref 188, .int p1, .int p2, .int (x3 + (M 194 (ix (((kI 24) * p1) + x5)))), .int (x4 + (kI 1)), .int (x5 + kI 1)]) (st' := []) 1 rfl H
                  obtain ⟨g0, _, H⟩ := pGo (n1 := 1) rfl (mcb_56 rfl) H
                  exact (ih _ (by omega)) _ _ _  _ H
              · exact absurd (show ¬ ((kI 1) = (kI 1)) from g9) (by decide)
theorem L_56_1_ok {X : aX} {F d : Nat} {K : Nat → aK} (hS : pS K) {p1 : Int32} {p2 : Int32} {out : Option Value × aH} {f : Nat} {x3 : Int32} {x4 : Int32} {x5 : Int32} {M : pMem} (H : pm X F d 56 f 1 [.iload 5, .aload 0, .getfield 124412008, .if_icmp .ge 17] [.ref 188, .int p1, .int p2, .int x3, .int x4, .int x5] [] (pH K M) out) : pG eI K out (L_56_1 p1 p2 x3 x4 x5 M) := by
  refine pG_all (C := fun P : (Int32 → Int32 → Int32 → pMem → pT Int32) => C_56 p1 p2 P) (T := fun P => P x3 x4 x5 M) eI_inj (fun _ _ _ _ _ _ => True) ?_ (fun P hP => (K_56 hS P hP f) _ _ _ _ H)
  exact (fun _ _ _ _ _ _ _ => trivial)
theorem D_56_ok {X : aX} {F d : Nat} {K : Nat → aK} (hS : pS K) {p1 : Int32} {p2 : Int32} {M : pMem} {out : Option Value × aH} (H : aM X F d 56 [.ref 188, .int p1, .int p2] (pH K M) = some out) : pG eI K out (D_56 p1 p2 M) := by
  obtain ⟨d', g0, _, H⟩ := pEnt (n := 6) (ls := [.ref 188, .int p1, .int p2, aD, aD, aD]) (mcb_56 rfl) (by decide +kernel) rfl H
  unfold D_56
  replace H := pRun (ls' := [.ref 188, .int p1, .int p2, .int (kI 0), .int (kI 0), .int (kI 0)]) (st' := []) 6 rfl H
  obtain ⟨g0, _, H⟩ := pFall (mcb_56 rfl) H
  exact L_56_1_ok hS  H
def l_56 : List (Nat × Nat) := []
theorem FC_56 {p1 : Int32} {p2 : Int32} : C_56 p1 p2 (fun _ _ _ M _ N => pFr (l_56) M N) := fun x3 x4 x5 M => show pTf (l_56) M (S_56_1 p1 p2 _ x3 x4 x5 M) from (tf_if (tf_ret pFr_refl) (tf_if (tf_jump pFr_refl) (tf_gd fun g3 => (tf_if (tf_jump pFr_refl) (tf_gd fun g5 => (tf_gd fun g6 => (tf_if (tf_if (tf_if (tf_gd fun g11 => (tf_jump pFr_refl)) (tf_gd fun g11 => (tf_jump pFr_refl))) (tf_jump pFr_refl)) (tf_if (tf_jump pFr_refl) (tf_if (tf_gd fun g11 => (tf_jump pFr_refl)) (tf_gd fun g11 => (tf_jump pFr_refl)))))))))))
theorem F_56 {p1 : Int32} {p2 : Int32} {M : pMem} {v : Int32} {N : pMem} (h : D_56 p1 p2 M v N) : pFr (l_56) M N :=
  (show pTf (l_56) M (D_56 p1 p2 M) from (tf_jumpL (fun _ _ _ M _ N => pFr (l_56) M N) (FC_56) rfl pFr_refl)) v N h
/-- TwoCampsModel.puts(I)V -/
def S_57_1 (p1 : Int32) (P1 : Int32 → pMem → pT Unit) (x2 : Int32) (M : pMem) : pT Unit := tIf (x2 < 0) (tRet () M) (tGd (pIn (M 188 24) 500) <| tPut (aPut M 202 (ix (M 188 24)) ((p1 >>> (x2 &&& 31)) &&& (kI 255))) fun M1 => tPut (aPut M1 188 24 ((M1 188 24) + (kI 1))) fun M2 => P1 (x2 + kI (-8)) M2)
def C_57 (p1 : Int32) (P1 : Int32 → pMem → pT Unit) : Prop := (∀ (x2 : Int32) M v N, S_57_1 p1 P1 x2 M v N → P1 x2 M v N)
def L_57_1 (p1 : Int32) (x2 : Int32) (M : pMem) : pT Unit := fun v N => ∀ P : (Int32 → pMem → pT Unit), C_57 p1 P → P x2 M v N
def D_57 (p1 : Int32) (M : pMem) : pT Unit := L_57_1 p1 (kI 24) M
theorem K_57 {X : aX} {F d : Nat} {K : Nat → aK} (hS : pS K) {p1 : Int32} {out : Option Value × aH} (P1 : Int32 → pMem → pT Unit) (hC : C_57 p1 P1) : ∀ f, (∀ (x2 : Int32) M, pm X F d 57 f 1 [.iload 2, .ifCond .lt 3] [.ref 188, .int p1, .int x2] [] (pH K M) out → pG eU K out (P1 x2 M)) := by
  intro f
  induction f using Nat.strongRecOn with
  | _ f ih =>
    intro x2 M H
    refine pG_mono (fun v N h => hC x2 M v N h) ?_
    unfold S_57_1
    replace H := pRun (ls' := [.ref 188, .int p1, .int x2]) (st' := [.int x2]) 1 rfl H
    rcases pIf0 (n1 := 3) rfl (mcb_57 rfl) (mcb_57 rfl) H with ⟨g1, g0, _, H⟩ | ⟨g1, g0, _, H⟩
    · refine pG_pos (c := x2 < 0) g1 ?_
      exact pG_ret (pRetU H)
    · refine pG_neg (c := x2 < 0) g1 ?_
      replace H := pRun (ls' := [.ref 188, .int p1, .int x2]) (st' := [.ref 188]) 1 rfl H
      replace H := pGetR (r := 202) (pRf hS (by decide +kernel)) rfl H
      replace H := pRun (ls' := [.ref 188, .int p1, .int x2]) (st' := [.ref 188, .ref 202]) 1 rfl H
      replace H := pGetN (v := M 188 24) rfl (by decide) H
      replace H := pRun (ls' := [.ref 188, .int p1, .int x2]) (st' := [.int ((p1 >>> (x2 &&& 31)) &&& (kI 255)), .int (M 188 24), .ref 202]) 5 rfl H
      obtain ⟨g2, M1, eM1, H⟩ := pIst (n := 500) (pLn hS (show pCa 202 500 = true by decide +kernel)) H
      refine pG_gd g2 (pG_put (M2 := M1) eM1 ?_)
      replace H := pRun (ls' := [.ref 188, .int p1, .int x2]) (st' := [.ref 188, .ref 188]) 2 rfl H
      replace H := pGetN (v := M1 188 24) rfl (by decide) H
      replace H := pRun (ls' := [.ref 188, .int p1, .int x2]) (st' := [.int ((M1 188 24) + (kI 1)), .ref 188]) 2 rfl H
      obtain ⟨M2, eM2, H⟩ := pPutN (j := 24) rfl H
      refine pG_put (M2 := M2) eM2 ?_
      replace H := pRun (ls' := [.ref 188, .int p1, .int (x2 + kI (-8))]) (st' := []) 1 rfl H
      obtain ⟨g0, _, H⟩ := pGo (n1 := 1) rfl (mcb_57 rfl) H
      exact (ih _ (by omega)) _  _ H
theorem L_57_1_ok {X : aX} {F d : Nat} {K : Nat → aK} (hS : pS K) {p1 : Int32} {out : Option Value × aH} {f : Nat} {x2 : Int32} {M : pMem} (H : pm X F d 57 f 1 [.iload 2, .ifCond .lt 3] [.ref 188, .int p1, .int x2] [] (pH K M) out) : pG eU K out (L_57_1 p1 x2 M) := by
  refine pG_all (C := fun P : (Int32 → pMem → pT Unit) => C_57 p1 P) (T := fun P => P x2 M) eU_inj (fun _ _ _ _ => True) ?_ (fun P hP => (K_57 hS P hP f) _ _ H)
  exact (fun _ _ _ _ _ => trivial)
theorem D_57_ok {X : aX} {F d : Nat} {K : Nat → aK} (hS : pS K) {p1 : Int32} {M : pMem} {out : Option Value × aH} (H : aM X F d 57 [.ref 188, .int p1] (pH K M) = some out) : pG eU K out (D_57 p1 M) := by
  obtain ⟨d', g0, _, H⟩ := pEnt (n := 3) (ls := [.ref 188, .int p1, aD]) (mcb_57 rfl) (by decide +kernel) rfl H
  unfold D_57
  replace H := pRun (ls' := [.ref 188, .int p1, .int (kI 24)]) (st' := []) 2 rfl H
  obtain ⟨g0, _, H⟩ := pFall (mcb_57 rfl) H
  exact L_57_1_ok hS  H
def l_57 : List (Nat × Nat) := [(202, 999), (188, 24)]
theorem FC_57 {p1 : Int32} : C_57 p1 (fun _ M _ N => pFr (l_57) M N) := fun x2 M => show pTf (l_57) M (S_57_1 p1 _ x2 M) from (tf_if (tf_ret pFr_refl) (tf_gd fun g2 => (tf_putA pFr_refl 0 rfl fun M1 f1 => (tf_put f1 1 rfl fun M2 f2 => (tf_jump f2)))))
theorem F_57 {p1 : Int32} {M : pMem} {v : Unit} {N : pMem} (h : D_57 p1 M v N) : pFr (l_57) M N :=
  (show pTf (l_57) M (D_57 p1 M) from (tf_jumpL (fun _ M _ N => pFr (l_57) M N) (FC_57) rfl pFr_refl)) v N h
/-- TwoCampsModel.feed(IIIII)I -/
def D_58 (p1 : Int32) (p2 : Int32) (p3 : Int32) (p4 : Int32) (p5 : Int32) (M : pMem) : pT Int32 := tPut (aPut M 188 0 (kI 0)) fun M1 => tIf ((M1 188 24) ≤ (kI 480)) (tCall (D_57 p1 M1) fun _ M2 => tCall (D_57 p2 M2) fun _ M3 => tCall (D_57 p3 M3) fun _ M4 => tCall (D_57 p4 M4) fun _ M5 => tCall (D_57 p5 M5) fun _ M6 => tRet (M6 188 24) M6) (tRet (kI (-1)) M1)
theorem D_58_ok {X : aX} {F d : Nat} {K : Nat → aK} (hS : pS K) {p1 : Int32} {p2 : Int32} {p3 : Int32} {p4 : Int32} {p5 : Int32} {M : pMem} {out : Option Value × aH} (H : aM X F d 58 [.ref 188, .int p1, .int p2, .int p3, .int p4, .int p5] (pH K M) = some out) : pG eI K out (D_58 p1 p2 p3 p4 p5 M) := by
  obtain ⟨d', g0, _, H⟩ := pEnt (n := 6) (ls := [.ref 188, .int p1, .int p2, .int p3, .int p4, .int p5]) (mcb_58 rfl) (by decide +kernel) rfl H
  unfold D_58
  replace H := pRun (ls' := [.ref 188, .int p1, .int p2, .int p3, .int p4, .int p5]) (st' := [.int (kI 0), .ref 188]) 2 rfl H
  obtain ⟨M1, eM1, H⟩ := pPutN (j := 0) rfl H
  refine pG_put (M2 := M1) eM1 ?_
  replace H := pRun (ls' := [.ref 188, .int p1, .int p2, .int p3, .int p4, .int p5]) (st' := [.ref 188]) 1 rfl H
  replace H := pGetN (v := M1 188 24) rfl (by decide) H
  replace H := pRun (ls' := [.ref 188, .int p1, .int p2, .int p3, .int p4, .int p5]) (st' := [.int (kI 480), .int (M1 188 24)]) 1 rfl H
  rcases pIfc (n1 := 2) rfl (mcb_58 rfl) (mcb_58 rfl) H with ⟨g1, g0, _, H⟩ | ⟨g1, g0, _, H⟩
  · refine pG_pos (c := (M1 188 24) ≤ (kI 480)) g1 ?_
    replace H := pRun (ls' := [.ref 188, .int p1, .int p2, .int p3, .int p4, .int p5]) (st' := [.int p1, .ref 188]) 2 rfl H
    obtain ⟨rv, h1, hc, H⟩ := pCalV 57 1 188 (as := [.int p1]) (rest := []) rfl (by decide) (by decide +kernel) rfl rfl H
    obtain ⟨v1, M2, hD, H⟩ := pUseU (D_57_ok hS hc) H
    refine pG_call (x := v1) (M1 := M2) hD ?_
    replace H := pRun (ls' := [.ref 188, .int p1, .int p2, .int p3, .int p4, .int p5]) (st' := [.int p2, .ref 188]) 2 rfl H
    obtain ⟨rv, h1, hc, H⟩ := pCalV 57 1 188 (as := [.int p2]) (rest := []) rfl (by decide) (by decide +kernel) rfl rfl H
    obtain ⟨v2, M3, hD, H⟩ := pUseU (D_57_ok hS hc) H
    refine pG_call (x := v2) (M1 := M3) hD ?_
    replace H := pRun (ls' := [.ref 188, .int p1, .int p2, .int p3, .int p4, .int p5]) (st' := [.int p3, .ref 188]) 2 rfl H
    obtain ⟨rv, h1, hc, H⟩ := pCalV 57 1 188 (as := [.int p3]) (rest := []) rfl (by decide) (by decide +kernel) rfl rfl H
    obtain ⟨v3, M4, hD, H⟩ := pUseU (D_57_ok hS hc) H
    refine pG_call (x := v3) (M1 := M4) hD ?_
    replace H := pRun (ls' := [.ref 188, .int p1, .int p2, .int p3, .int p4, .int p5]) (st' := [.int p4, .ref 188]) 2 rfl H
    obtain ⟨rv, h1, hc, H⟩ := pCalV 57 1 188 (as := [.int p4]) (rest := []) rfl (by decide) (by decide +kernel) rfl rfl H
    obtain ⟨v4, M5, hD, H⟩ := pUseU (D_57_ok hS hc) H
    refine pG_call (x := v4) (M1 := M5) hD ?_
    replace H := pRun (ls' := [.ref 188, .int p1, .int p2, .int p3, .int p4, .int p5]) (st' := [.int p5, .ref 188]) 2 rfl H
    obtain ⟨rv, h1, hc, H⟩ := pCalV 57 1 188 (as := [.int p5]) (rest := []) rfl (by decide) (by decide +kernel) rfl rfl H
    obtain ⟨v5, M6, hD, H⟩ := pUseU (D_57_ok hS hc) H
    refine pG_call (x := v5) (M1 := M6) hD ?_
    replace H := pRun (ls' := [.ref 188, .int p1, .int p2, .int p3, .int p4, .int p5]) (st' := [.ref 188]) 1 rfl H
    replace H := pGetN (v := M6 188 24) rfl (by decide) H
    exact pG_ret (pRetI H)
  · refine pG_neg (c := (M1 188 24) ≤ (kI 480)) g1 ?_
    replace H := pRun (ls' := [.ref 188, .int p1, .int p2, .int p3, .int p4, .int p5]) (st' := [.int (kI (-1))]) 1 rfl H
    exact pG_ret (pRetI H)
def l_58 : List (Nat × Nat) := [(202, 999), (188, 24)]
theorem F_58 {p1 : Int32} {p2 : Int32} {p3 : Int32} {p4 : Int32} {p5 : Int32} {M : pMem} {v : Int32} {N : pMem} (h : D_58 p1 p2 p3 p4 p5 M v N) : pFr (l_58) M N :=
  (show pTf (l_58) M (D_58 p1 p2 p3 p4 p5 M) from (tf_putS1 pFr_refl rfl fun M1 f1 => (tf_if (tf_call f1 (fun _ _ h => F_57 h) [0, 1] rfl fun _ M2 f2 => (tf_call f2 (fun _ _ h => F_57 h) [0, 1] rfl fun _ M3 f3 => (tf_call f3 (fun _ _ h => F_57 h) [0, 1] rfl fun _ M4 f4 => (tf_call f4 (fun _ _ h => F_57 h) [0, 1] rfl fun _ M5 f5 => (tf_call f5 (fun _ _ h => F_57 h) [0, 1] rfl fun _ M6 f6 => (tf_ret f6)))))) (tf_ret f1)))) v N h
/-- TwoCampsModel.end(I)Z -/
def D_59 (p1 : Int32) (M : pMem) : pT Int32 := tPut (aPut M 188 0 (kI 0)) fun M1 => tIf (¬ (f_42 p1 (kI 0) (M1 188 24)) = 0) (tPut (aPut M1 188 24 p1) fun M2 => tRet (kI 1) M2) (tRet (kI 0) M1)
theorem D_59_ok {X : aX} {F d : Nat} {K : Nat → aK} (hS : pS K) {p1 : Int32} {M : pMem} {out : Option Value × aH} (H : aM X F d 59 [.ref 188, .int p1] (pH K M) = some out) : pG eI K out (D_59 p1 M) := by
  obtain ⟨d', g0, _, H⟩ := pEnt (n := 2) (ls := [.ref 188, .int p1]) (mcb_59 rfl) (by decide +kernel) rfl H
  unfold D_59
  replace H := pRun (ls' := [.ref 188, .int p1]) (st' := [.int (kI 0), .ref 188]) 2 rfl H
  obtain ⟨M1, eM1, H⟩ := pPutN (j := 0) rfl H
  refine pG_put (M2 := M1) eM1 ?_
  replace H := pRun (ls' := [.ref 188, .int p1]) (st' := [.ref 188, .int (kI 0), .int p1, .ref 188]) 4 rfl H
  replace H := pGetN (v := M1 188 24) rfl (by decide) H
  obtain ⟨rv, h1, hc, H⟩ := pCalV 42 3 188 (as := [.int p1, .int (kI 0), .int (M1 188 24)]) (rest := []) rfl (by decide) (by decide +kernel) rfl rfl H
  replace H := pUseF (f_42_ok hS hc) H
  rcases pIf0 (n1 := 2) rfl (mcb_59 rfl) (mcb_59 rfl) H with ⟨g1, g0, _, H⟩ | ⟨g1, g0, _, H⟩
  · refine pG_pos (c := ¬ (f_42 p1 (kI 0) (M1 188 24)) = 0) g1 ?_
    replace H := pRun (ls' := [.ref 188, .int p1]) (st' := [.int p1, .ref 188]) 2 rfl H
    obtain ⟨M2, eM2, H⟩ := pPutN (j := 24) rfl H
    refine pG_put (M2 := M2) eM2 ?_
    replace H := pRun (ls' := [.ref 188, .int p1]) (st' := [.int (kI 1)]) 1 rfl H
    exact pG_ret (pRetI H)
  · refine pG_neg (c := ¬ (f_42 p1 (kI 0) (M1 188 24)) = 0) g1 ?_
    replace H := pRun (ls' := [.ref 188, .int p1]) (st' := [.int (kI 0)]) 1 rfl H
    exact pG_ret (pRetI H)
def l_59 : List (Nat × Nat) := [(188, 24)]
theorem F_59 {p1 : Int32} {M : pMem} {v : Int32} {N : pMem} (h : D_59 p1 M v N) : pFr (l_59) M N :=
  (show pTf (l_59) M (D_59 p1 M) from (tf_putS1 pFr_refl rfl fun M1 f1 => (tf_if (tf_put f1 0 rfl fun M2 f2 => (tf_ret f2)) (tf_ret f1)))) v N h
