/-! what runs come to, method by method: printed by wip/pm/pm.py -/
/-- TwoCamps.knew(IIZ)Z -/
def D_3 (p1 : Int32) (p2 : Int32) (p3 : Int32) (M : pMem) : pT Int32 := tIf (¬ (f_223 19 p1 p2 M) = 0) (tCall (D_224 19 p1 p2 p3 M) fun _ M1 => tRet (kI 1) M1) (tRet (kI 0) M)
theorem D_3_ok {X : aX} {F d : Nat} {K : Nat → aK} (hS : pS K) {p1 : Int32} {p2 : Int32} {p3 : Int32} {M : pMem} {out : Option Value × aH} (H : aM X F d 3 [.ref 0, .int p1, .int p2, .int p3] (pH K M) = some out) : pG eI K out (D_3 p1 p2 p3 M) := by
  obtain ⟨d', g0, _, H⟩ := pEnt (n := 4) (ls := [.ref 0, .int p1, .int p2, .int p3]) (mcb_3 rfl) (by decide +kernel) rfl H
  unfold D_3
  replace H := pRun (ls' := [.ref 0, .int p1, .int p2, .int p3]) (st' := [.ref 0]) 1 rfl H
  replace H := pGetR (r := 18) (pRf hS (by decide +kernel)) rfl H
  replace H := pGetR (r := 19) (pRf hS (by decide +kernel)) rfl H
  replace H := pRun (ls' := [.ref 0, .int p1, .int p2, .int p3]) (st' := [.int p2, .int p1, .ref 19]) 2 rfl H
  obtain ⟨rv, h1, hc, H⟩ := pCalV 223 2 19 (as := [.int p1, .int p2]) (rest := []) rfl (by decide) (by decide +kernel) rfl rfl H
  replace H := pUseF (f_223_ok hS (show pK 10 19 = true by decide +kernel) hc) H
  rcases pIf0 (n1 := 2) rfl (mcb_3 rfl) (mcb_3 rfl) H with ⟨g1, g0, _, H⟩ | ⟨g1, g0, _, H⟩
  · refine pG_pos (c := ¬ (f_223 19 p1 p2 M) = 0) g1 ?_
    replace H := pRun (ls' := [.ref 0, .int p1, .int p2, .int p3]) (st' := [.ref 0]) 1 rfl H
    replace H := pGetR (r := 18) (pRf hS (by decide +kernel)) rfl H
    replace H := pGetR (r := 19) (pRf hS (by decide +kernel)) rfl H
    replace H := pRun (ls' := [.ref 0, .int p1, .int p2, .int p3]) (st' := [.int p3, .int p2, .int p1, .ref 19]) 3 rfl H
    obtain ⟨rv, h1, hc, H⟩ := pCalV 224 3 19 (as := [.int p1, .int p2, .int p3]) (rest := []) rfl (by decide) (by decide +kernel) rfl rfl H
    obtain ⟨v1, M1, hD, H⟩ := pUseU (D_224_ok hS (show pK 10 19 = true by decide +kernel) hc) H
    refine pG_call (x := v1) (M1 := M1) hD ?_
    replace H := pRun (ls' := [.ref 0, .int p1, .int p2, .int p3]) (st' := [.int (kI 1)]) 1 rfl H
    exact pG_ret (pRetI H)
  · refine pG_neg (c := ¬ (f_223 19 p1 p2 M) = 0) g1 ?_
    replace H := pRun (ls' := [.ref 0, .int p1, .int p2, .int p3]) (st' := [.int (kI 0)]) 1 rfl H
    exact pG_ret (pRetI H)
def l_3 : List (Nat × Nat) := [(21, 999)]
theorem F_3 {p1 : Int32} {p2 : Int32} {p3 : Int32} {M : pMem} {v : Int32} {N : pMem} (h : D_3 p1 p2 p3 M v N) : pFr (l_3) M N :=
  (show pTf (l_3) M (D_3 p1 p2 p3 M) from (tf_if (tf_call pFr_refl (fun _ _ h => F_224 (show pK 10 19 = true by decide +kernel) h) [0] rfl fun _ M1 f1 => (tf_ret f1)) (tf_ret pFr_refl))) v N h
/-- TwoCamps.state(I)I -/
def D_4 (p1 : Int32) (M : pMem) : pT Int32 := tPut (aPut M 19 5 p1) fun M1 => tRet (M 19 5) M1
theorem D_4_ok {X : aX} {F d : Nat} {K : Nat → aK} (hS : pS K) {p1 : Int32} {M : pMem} {out : Option Value × aH} (H : aM X F d 4 [.ref 0, .int p1] (pH K M) = some out) : pG eI K out (D_4 p1 M) := by
  obtain ⟨d', g0, _, H⟩ := pEnt (n := 3) (ls := [.ref 0, .int p1, aD]) (mcb_4 rfl) (by decide +kernel) rfl H
  unfold D_4
  replace H := pRun (ls' := [.ref 0, .int p1, aD]) (st' := [.ref 0]) 1 rfl H
  replace H := pGetR (r := 18) (pRf hS (by decide +kernel)) rfl H
  replace H := pGetR (r := 19) (pRf hS (by decide +kernel)) rfl H
  replace H := pGetN (v := M 19 5) rfl (by decide) H
  replace H := pRun (ls' := [.ref 0, .int p1, .int (M 19 5)]) (st' := [.ref 0]) 2 rfl H
  replace H := pGetR (r := 18) (pRf hS (by decide +kernel)) rfl H
  replace H := pGetR (r := 19) (pRf hS (by decide +kernel)) rfl H
  replace H := pRun (ls' := [.ref 0, .int p1, .int (M 19 5)]) (st' := [.int p1, .ref 19]) 1 rfl H
  obtain ⟨M1, eM1, H⟩ := pPutN (j := 5) rfl H
  refine pG_put (M2 := M1) eM1 ?_
  replace H := pRun (ls' := [.ref 0, .int p1, .int (M 19 5)]) (st' := [.int (M 19 5)]) 1 rfl H
  exact pG_ret (pRetI H)
def l_4 : List (Nat × Nat) := [(19, 5)]
theorem F_4 {p1 : Int32} {M : pMem} {v : Int32} {N : pMem} (h : D_4 p1 M v N) : pFr (l_4) M N :=
  (show pTf (l_4) M (D_4 p1 M) from (tf_put pFr_refl 0 rfl fun M1 f1 => (tf_ret f1))) v N h
/-- TwoCamps.feed(IIIII)I -/
def D_5 (p1 : Int32) (p2 : Int32) (p3 : Int32) (p4 : Int32) (p5 : Int32) (M : pMem) : pT Int32 := tIf (((M 1 0) + (kI 20)) ≤ (kI 500)) (tCall (D_194 p1 M) fun _ M1 => tCall (D_194 p2 M1) fun _ M2 => tCall (D_194 p3 M2) fun _ M3 => tCall (D_194 p4 M3) fun _ M4 => tCall (D_194 p5 M4) fun _ M5 => tRet (M5 1 0) M5) (tRet (kI (-1)) M)
theorem D_5_ok {X : aX} {F d : Nat} {K : Nat → aK} (hS : pS K) {p1 : Int32} {p2 : Int32} {p3 : Int32} {p4 : Int32} {p5 : Int32} {M : pMem} {out : Option Value × aH} (H : aM X F d 5 [.ref 0, .int p1, .int p2, .int p3, .int p4, .int p5] (pH K M) = some out) : pG eI K out (D_5 p1 p2 p3 p4 p5 M) := by
  obtain ⟨d', g0, _, H⟩ := pEnt (n := 6) (ls := [.ref 0, .int p1, .int p2, .int p3, .int p4, .int p5]) (mcb_5 rfl) (by decide +kernel) rfl H
  unfold D_5
  replace H := pRun (ls' := [.ref 0, .int p1, .int p2, .int p3, .int p4, .int p5]) (st' := [.ref 0]) 1 rfl H
  replace H := pGetR (r := 1) (pRf hS (by decide +kernel)) rfl H
  replace H := pGetN (v := M 1 0) rfl (by decide) H
  replace H := pRun (ls' := [.ref 0, .int p1, .int p2, .int p3, .int p4, .int p5]) (st' := [.int (kI 500), .int ((M 1 0) + (kI 20))]) 3 rfl H
  rcases pIfc (n1 := 2) rfl (mcb_5 rfl) (mcb_5 rfl) H with ⟨g1, g0, _, H⟩ | ⟨g1, g0, _, H⟩
  · refine pG_pos (c := ((M 1 0) + (kI 20)) ≤ (kI 500)) g1 ?_
    replace H := pRun (ls' := [.ref 0, .int p1, .int p2, .int p3, .int p4, .int p5]) (st' := [.ref 0]) 1 rfl H
    replace H := pGetR (r := 1) (pRf hS (by decide +kernel)) rfl H
    replace H := pRun (ls' := [.ref 0, .int p1, .int p2, .int p3, .int p4, .int p5]) (st' := [.int p1, .ref 1]) 1 rfl H
    obtain ⟨rv, h1, hc, H⟩ := pCalV 194 1 1 (as := [.int p1]) (rest := []) rfl (by decide) (by decide +kernel) rfl rfl H
    obtain ⟨v1, M1, hD, H⟩ := pUseU (D_194_ok hS hc) H
    refine pG_call (x := v1) (M1 := M1) hD ?_
    replace H := pRun (ls' := [.ref 0, .int p1, .int p2, .int p3, .int p4, .int p5]) (st' := [.ref 0]) 1 rfl H
    replace H := pGetR (r := 1) (pRf hS (by decide +kernel)) rfl H
    replace H := pRun (ls' := [.ref 0, .int p1, .int p2, .int p3, .int p4, .int p5]) (st' := [.int p2, .ref 1]) 1 rfl H
    obtain ⟨rv, h1, hc, H⟩ := pCalV 194 1 1 (as := [.int p2]) (rest := []) rfl (by decide) (by decide +kernel) rfl rfl H
    obtain ⟨v2, M2, hD, H⟩ := pUseU (D_194_ok hS hc) H
    refine pG_call (x := v2) (M1 := M2) hD ?_
    replace H := pRun (ls' := [.ref 0, .int p1, .int p2, .int p3, .int p4, .int p5]) (st' := [.ref 0]) 1 rfl H
    replace H := pGetR (r := 1) (pRf hS (by decide +kernel)) rfl H
    replace H := pRun (ls' := [.ref 0, .int p1, .int p2, .int p3, .int p4, .int p5]) (st' := [.int p3, .ref 1]) 1 rfl H
    obtain ⟨rv, h1, hc, H⟩ := pCalV 194 1 1 (as := [.int p3]) (rest := []) rfl (by decide) (by decide +kernel) rfl rfl H
    obtain ⟨v3, M3, hD, H⟩ := pUseU (D_194_ok hS hc) H
    refine pG_call (x := v3) (M1 := M3) hD ?_
    replace H := pRun (ls' := [.ref 0, .int p1, .int p2, .int p3, .int p4, .int p5]) (st' := [.ref 0]) 1 rfl H
    replace H := pGetR (r := 1) (pRf hS (by decide +kernel)) rfl H
    replace H := pRun (ls' := [.ref 0, .int p1, .int p2, .int p3, .int p4, .int p5]) (st' := [.int p4, .ref 1]) 1 rfl H
    obtain ⟨rv, h1, hc, H⟩ := pCalV 194 1 1 (as := [.int p4]) (rest := []) rfl (by decide) (by decide +kernel) rfl rfl H
    obtain ⟨v4, M4, hD, H⟩ := pUseU (D_194_ok hS hc) H
    refine pG_call (x := v4) (M1 := M4) hD ?_
    replace H := pRun (ls' := [.ref 0, .int p1, .int p2, .int p3, .int p4, .int p5]) (st' := [.ref 0]) 1 rfl H
    replace H := pGetR (r := 1) (pRf hS (by decide +kernel)) rfl H
    replace H := pRun (ls' := [.ref 0, .int p1, .int p2, .int p3, .int p4, .int p5]) (st' := [.int p5, .ref 1]) 1 rfl H
    obtain ⟨rv, h1, hc, H⟩ := pCalV 194 1 1 (as := [.int p5]) (rest := []) rfl (by decide) (by decide +kernel) rfl rfl H
    obtain ⟨v5, M5, hD, H⟩ := pUseU (D_194_ok hS hc) H
    refine pG_call (x := v5) (M1 := M5) hD ?_
    replace H := pRun (ls' := [.ref 0, .int p1, .int p2, .int p3, .int p4, .int p5]) (st' := [.ref 0]) 1 rfl H
    replace H := pGetR (r := 1) (pRf hS (by decide +kernel)) rfl H
    replace H := pGetN (v := M5 1 0) rfl (by decide) H
    exact pG_ret (pRetI H)
  · refine pG_neg (c := ((M 1 0) + (kI 20)) ≤ (kI 500)) g1 ?_
    replace H := pRun (ls' := [.ref 0, .int p1, .int p2, .int p3, .int p4, .int p5]) (st' := [.int (kI (-1))]) 1 rfl H
    exact pG_ret (pRetI H)
def l_5 : List (Nat × Nat) := [(2, 999), (1, 0)]
theorem F_5 {p1 : Int32} {p2 : Int32} {p3 : Int32} {p4 : Int32} {p5 : Int32} {M : pMem} {v : Int32} {N : pMem} (h : D_5 p1 p2 p3 p4 p5 M v N) : pFr (l_5) M N :=
  (show pTf (l_5) M (D_5 p1 p2 p3 p4 p5 M) from (tf_if (tf_call pFr_refl (fun _ _ h => F_194 h) [0, 1] rfl fun _ M1 f1 => (tf_call f1 (fun _ _ h => F_194 h) [0, 1] rfl fun _ M2 f2 => (tf_call f2 (fun _ _ h => F_194 h) [0, 1] rfl fun _ M3 f3 => (tf_call f3 (fun _ _ h => F_194 h) [0, 1] rfl fun _ M4 f4 => (tf_call f4 (fun _ _ h => F_194 h) [0, 1] rfl fun _ M5 f5 => (tf_ret f5)))))) (tf_ret pFr_refl))) v N h
/-- TwoCamps.end(I)Z -/
def D_6 (p1 : Int32) (M : pMem) : pT Int32 := tIf (p1 < 0) (tRet (kI 0) M) (tIf (p1 ≤ (M 1 0)) (tPut (aPut M 1 0 p1) fun M1 => tRet (kI 1) M1) (tRet (kI 0) M))
theorem D_6_ok {X : aX} {F d : Nat} {K : Nat → aK} (hS : pS K) {p1 : Int32} {M : pMem} {out : Option Value × aH} (H : aM X F d 6 [.ref 0, .int p1] (pH K M) = some out) : pG eI K out (D_6 p1 M) := by
  obtain ⟨d', g0, _, H⟩ := pEnt (n := 2) (ls := [.ref 0, .int p1]) (mcb_6 rfl) (by decide +kernel) rfl H
  unfold D_6
  replace H := pRun (ls' := [.ref 0, .int p1]) (st' := [.int p1]) 1 rfl H
  rcases pIf0 (n1 := 2) rfl (mcb_6 rfl) (mcb_6 rfl) H with ⟨g1, g0, _, H⟩ | ⟨g1, g0, _, H⟩
  · refine pG_pos (c := p1 < 0) g1 ?_
    replace H := pRun (ls' := [.ref 0, .int p1]) (st' := [.int (kI 0)]) 1 rfl H
    exact pG_ret (pRetI H)
  · refine pG_neg (c := p1 < 0) g1 ?_
    replace H := pRun (ls' := [.ref 0, .int p1]) (st' := [.ref 0, .int p1]) 2 rfl H
    replace H := pGetR (r := 1) (pRf hS (by decide +kernel)) rfl H
    replace H := pGetN (v := M 1 0) rfl (by decide) H
    rcases pIfc (n1 := 3) rfl (mcb_6 rfl) (mcb_6 rfl) H with ⟨g2, g0, _, H⟩ | ⟨g2, g0, _, H⟩
    · refine pG_pos (c := p1 ≤ (M 1 0)) g2 ?_
      replace H := pRun (ls' := [.ref 0, .int p1]) (st' := [.ref 0]) 1 rfl H
      replace H := pGetR (r := 1) (pRf hS (by decide +kernel)) rfl H
      replace H := pRun (ls' := [.ref 0, .int p1]) (st' := [.int p1, .ref 1]) 1 rfl H
      obtain ⟨M1, eM1, H⟩ := pPutN (j := 0) rfl H
      refine pG_put (M2 := M1) eM1 ?_
      replace H := pRun (ls' := [.ref 0, .int p1]) (st' := [.int (kI 1)]) 1 rfl H
      exact pG_ret (pRetI H)
    · refine pG_neg (c := p1 ≤ (M 1 0)) g2 ?_
      replace H := pRun (ls' := [.ref 0, .int p1]) (st' := [.int (kI 0)]) 1 rfl H
      exact pG_ret (pRetI H)
def l_6 : List (Nat × Nat) := [(1, 0)]
theorem F_6 {p1 : Int32} {M : pMem} {v : Int32} {N : pMem} (h : D_6 p1 M v N) : pFr (l_6) M N :=
  (show pTf (l_6) M (D_6 p1 M) from (tf_if (tf_ret pFr_refl) (tf_if (tf_put pFr_refl 0 rfl fun M1 f1 => (tf_ret f1)) (tf_ret pFr_refl)))) v N h
/-- TwoCamps.text(II)I -/
def D_7 (p1 : Int32) (p2 : Int32) (M : pMem) : pT Int32 := tCall (D_170 M) fun _ M1 => tIf (¬ p1 = 0) (tIf (¬ p1 = (kI 1)) (tPut (aPut M1 1 0 (kI 0)) fun M2 => tRet (kI (-1)) M2) (tIf ((f_33 p2) = 0) (tPut (aPut M1 1 0 (kI 0)) fun M2 => tRet (kI (-1)) M2) (tGd (pIn p2 4) <| tCall (D_181 (37 + 11 * ix p2) M1) fun v2 M2 => tPut (aPut M2 1 0 (kI 0)) fun M3 => tRet v2 M3))) (tIf ((f_33 p2) = 0) (tIf (¬ p1 = (kI 1)) (tPut (aPut M1 1 0 (kI 0)) fun M2 => tRet (kI (-1)) M2) (tIf ((f_33 p2) = 0) (tPut (aPut M1 1 0 (kI 0)) fun M2 => tRet (kI (-1)) M2) (tGd (pIn p2 4) <| tCall (D_181 (37 + 11 * ix p2) M1) fun v2 M2 => tPut (aPut M2 1 0 (kI 0)) fun M3 => tRet v2 M3))) (tGd (pIn p2 4) <| tCall (D_174 (30 + 11 * ix p2) M1) fun v2 M2 => tPut (aPut M2 1 0 (kI 0)) fun M3 => tRet v2 M3))
theorem D_7_ok {X : aX} {F d : Nat} {K : Nat → aK} (hS : pS K) {p1 : Int32} {p2 : Int32} {M : pMem} {out : Option Value × aH} (H : aM X F d 7 [.ref 0, .int p1, .int p2] (pH K M) = some out) : pG eI K out (D_7 p1 p2 M) := by
  obtain ⟨d', g0, _, H⟩ := pEnt (n := 4) (ls := [.ref 0, .int p1, .int p2, aD]) (mcb_7 rfl) (by decide +kernel) rfl H
  unfold D_7
  replace H := pRun (ls' := [.ref 0, .int p1, .int p2, aD]) (st' := [.ref 0]) 1 rfl H
  replace H := pGetR (r := 6) (pRf hS (by decide +kernel)) rfl H
  obtain ⟨rv, h1, hc, H⟩ := pCalV 170 0 6 (as := []) (rest := []) rfl (by decide) (by decide +kernel) rfl rfl H
  obtain ⟨v1, M1, hD, H⟩ := pUseU (D_170_ok hS hc) H
  refine pG_call (x := v1) (M1 := M1) hD ?_
  replace H := pRun (ls' := [.ref 0, .int p1, .int p2, .int (kI (-1))]) (st' := [.int p1]) 3 rfl H
  rcases pIf0 (n1 := 3) rfl (mcb_7 rfl) (mcb_7 rfl) H with ⟨g1, g0, _, H⟩ | ⟨g1, g0, _, H⟩
  · refine pG_pos (c := ¬ p1 = 0) g1 ?_
    replace H := pRun (ls' := [.ref 0, .int p1, .int p2, .int (kI (-1))]) (st' := [.int (kI 1), .int p1]) 2 rfl H
    rcases pIfc (n1 := 6) rfl (mcb_7 rfl) (mcb_7 rfl) H with ⟨g2, g0, _, H⟩ | ⟨g2, g0, _, H⟩
    · refine pG_pos (c := ¬ p1 = (kI 1)) g2 ?_
      replace H := pRun (ls' := [.ref 0, .int p1, .int p2, .int (kI (-1))]) (st' := [.ref 0]) 1 rfl H
      replace H := pGetR (r := 1) (pRf hS (by decide +kernel)) rfl H
      replace H := pRun (ls' := [.ref 0, .int p1, .int p2, .int (kI (-1))]) (st' := [.int (kI 0), .ref 1]) 1 rfl H
      obtain ⟨M2, eM2, H⟩ := pPutN (j := 0) rfl H
      refine pG_put (M2 := M2) eM2 ?_
      replace H := pRun (ls' := [.ref 0, .int p1, .int p2, .int (kI (-1))]) (st' := [.int (kI (-1))]) 1 rfl H
      exact pG_ret (pRetI H)
    · refine pG_neg (c := ¬ p1 = (kI 1)) g2 ?_
      replace H := pRun (ls' := [.ref 0, .int p1, .int p2, .int (kI (-1))]) (st' := [.int p2]) 1 rfl H
      obtain ⟨rv, h1, hc, H⟩ := pCalT 33 1 (as := [.int p2]) (rest := []) rfl (by decide) (by decide +kernel) rfl rfl H
      replace H := pUseF (f_33_ok hS hc) H
      rcases pIf0 (n1 := 6) rfl (mcb_7 rfl) (mcb_7 rfl) H with ⟨g3, g0, _, H⟩ | ⟨g3, g0, _, H⟩
      · refine pG_pos (c := (f_33 p2) = 0) g3 ?_
        replace H := pRun (ls' := [.ref 0, .int p1, .int p2, .int (kI (-1))]) (st' := [.ref 0]) 1 rfl H
        replace H := pGetR (r := 1) (pRf hS (by decide +kernel)) rfl H
        replace H := pRun (ls' := [.ref 0, .int p1, .int p2, .int (kI (-1))]) (st' := [.int (kI 0), .ref 1]) 1 rfl H
        obtain ⟨M2, eM2, H⟩ := pPutN (j := 0) rfl H
        refine pG_put (M2 := M2) eM2 ?_
        replace H := pRun (ls' := [.ref 0, .int p1, .int p2, .int (kI (-1))]) (st' := [.int (kI (-1))]) 1 rfl H
        exact pG_ret (pRetI H)
      · refine pG_neg (c := (f_33 p2) = 0) g3 ?_
        replace H := pRun (ls' := [.ref 0, .int p1, .int p2, .int (kI (-1))]) (st' := [.ref 0]) 1 rfl H
        replace H := pGetR (r := 6) (pRf hS (by decide +kernel)) rfl H
        replace H := pRun (ls' := [.ref 0, .int p1, .int p2, .int (kI (-1))]) (st' := [.ref 0, .ref 6]) 1 rfl H
        replace H := pGetR (r := 18) (pRf hS (by decide +kernel)) rfl H
        replace H := pGetR (r := 25) (pRf hS (by decide +kernel)) rfl H
        replace H := pRun (ls' := [.ref 0, .int p1, .int p2, .int (kI (-1))]) (st' := [.int p2, .ref 25, .ref 6]) 1 rfl H
        obtain ⟨g4, H⟩ := pAld (n := 4) (r := 37 + 11 * ix p2) (pArL hS (show pAr 25 4 37 11 3 = true by decide +kernel)) (fun h => pArR hS (show pAr 25 4 37 11 3 = true by decide +kernel) h) H
        refine pG_gd g4 ?_
        obtain ⟨rv, h1, hc, H⟩ := pCalV 181 1 6 (as := [.ref (37 + 11 * ix p2)]) (rest := []) rfl (by decide) (by decide +kernel) rfl rfl H
        obtain ⟨v2, M2, hD, H⟩ := pUseI (D_181_ok hS (pArK (show pAr 25 4 37 11 3 = true by decide +kernel) (by decide) g4) hc) H
        refine pG_call (x := v2) (M1 := M2) hD ?_
        replace H := pRun (ls' := [.ref 0, .int p1, .int p2, .int v2]) (st' := []) 1 rfl H
        obtain ⟨g0, _, H⟩ := pFall (mcb_7 rfl) H
        replace H := pRun (ls' := [.ref 0, .int p1, .int p2, .int v2]) (st' := [.ref 0]) 1 rfl H
        replace H := pGetR (r := 1) (pRf hS (by decide +kernel)) rfl H
        replace H := pRun (ls' := [.ref 0, .int p1, .int p2, .int v2]) (st' := [.int (kI 0), .ref 1]) 1 rfl H
        obtain ⟨M3, eM3, H⟩ := pPutN (j := 0) rfl H
        refine pG_put (M2 := M3) eM3 ?_
        replace H := pRun (ls' := [.ref 0, .int p1, .int p2, .int v2]) (st' := [.int v2]) 1 rfl H
        exact pG_ret (pRetI H)
  · refine pG_neg (c := ¬ p1 = 0) g1 ?_
    replace H := pRun (ls' := [.ref 0, .int p1, .int p2, .int (kI (-1))]) (st' := [.int p2]) 1 rfl H
    obtain ⟨rv, h1, hc, H⟩ := pCalT 33 1 (as := [.int p2]) (rest := []) rfl (by decide) (by decide +kernel) rfl rfl H
    replace H := pUseF (f_33_ok hS hc) H
    rcases pIf0 (n1 := 3) rfl (mcb_7 rfl) (mcb_7 rfl) H with ⟨g2, g0, _, H⟩ | ⟨g2, g0, _, H⟩
    · refine pG_pos (c := (f_33 p2) = 0) g2 ?_
      replace H := pRun (ls' := [.ref 0, .int p1, .int p2, .int (kI (-1))]) (st' := [.int (kI 1), .int p1]) 2 rfl H
      rcases pIfc (n1 := 6) rfl (mcb_7 rfl) (mcb_7 rfl) H with ⟨g3, g0, _, H⟩ | ⟨g3, g0, _, H⟩
      · refine pG_pos (c := ¬ p1 = (kI 1)) g3 ?_
        replace H := pRun (ls' := [.ref 0, .int p1, .int p2, .int (kI (-1))]) (st' := [.ref 0]) 1 rfl H
        replace H := pGetR (r := 1) (pRf hS (by decide +kernel)) rfl H
        replace H := pRun (ls' := [.ref 0, .int p1, .int p2, .int (kI (-1))]) (st' := [.int (kI 0), .ref 1]) 1 rfl H
        obtain ⟨M2, eM2, H⟩ := pPutN (j := 0) rfl H
        refine pG_put (M2 := M2) eM2 ?_
        replace H := pRun (ls' := [.ref 0, .int p1, .int p2, .int (kI (-1))]) (st' := [.int (kI (-1))]) 1 rfl H
        exact pG_ret (pRetI H)
      · refine pG_neg (c := ¬ p1 = (kI 1)) g3 ?_
        replace H := pRun (ls' := [.ref 0, .int p1, .int p2, .int (kI (-1))]) (st' := [.int p2]) 1 rfl H
        obtain ⟨rv, h1, hc, H⟩ := pCalT 33 1 (as := [.int p2]) (rest := []) rfl (by decide) (by decide +kernel) rfl rfl H
        replace H := pUseF (f_33_ok hS hc) H
        rcases pIf0 (n1 := 6) rfl (mcb_7 rfl) (mcb_7 rfl) H with ⟨g4, g0, _, H⟩ | ⟨g4, g0, _, H⟩
        · refine pG_pos (c := (f_33 p2) = 0) g4 ?_
          replace H := pRun (ls' := [.ref 0, .int p1, .int p2, .int (kI (-1))]) (st' := [.ref 0]) 1 rfl H
          replace H := pGetR (r := 1) (pRf hS (by decide +kernel)) rfl H
          replace H := pRun (ls' := [.ref 0, .int p1, .int p2, .int (kI (-1))]) (st' := [.int (kI 0), .ref 1]) 1 rfl H
          obtain ⟨M2, eM2, H⟩ := pPutN (j := 0) rfl H
          refine pG_put (M2 := M2) eM2 ?_
          replace H := pRun (ls' := [.ref 0, .int p1, .int p2, .int (kI (-1))]) (st' := [.int (kI (-1))]) 1 rfl H
          exact pG_ret (pRetI H)
        · refine pG_neg (c := (f_33 p2) = 0) g4 ?_
          replace H := pRun (ls' := [.ref 0, .int p1, .int p2, .int (kI (-1))]) (st' := [.ref 0]) 1 rfl H
          replace H := pGetR (r := 6) (pRf hS (by decide +kernel)) rfl H
          replace H := pRun (ls' := [.ref 0, .int p1, .int p2, .int (kI (-1))]) (st' := [.ref 0, .ref 6]) 1 rfl H
          replace H := pGetR (r := 18) (pRf hS (by decide +kernel)) rfl H
          replace H := pGetR (r := 25) (pRf hS (by decide +kernel)) rfl H
          replace H := pRun (ls' := [.ref 0, .int p1, .int p2, .int (kI (-1))]) (st' := [.int p2, .ref 25, .ref 6]) 1 rfl H
          obtain ⟨g5, H⟩ := pAld (n := 4) (r := 37 + 11 * ix p2) (pArL hS (show pAr 25 4 37 11 3 = true by decide +kernel)) (fun h => pArR hS (show pAr 25 4 37 11 3 = true by decide +kernel) h) H
          refine pG_gd g5 ?_
          obtain ⟨rv, h1, hc, H⟩ := pCalV 181 1 6 (as := [.ref (37 + 11 * ix p2)]) (rest := []) rfl (by decide) (by decide +kernel) rfl rfl H
          obtain ⟨v2, M2, hD, H⟩ := pUseI (D_181_ok hS (pArK (show pAr 25 4 37 11 3 = true by decide +kernel) (by decide) g5) hc) H
          refine pG_call (x := v2) (M1 := M2) hD ?_
          replace H := pRun (ls' := [.ref 0, .int p1, .int p2, .int v2]) (st' := []) 1 rfl H
          obtain ⟨g0, _, H⟩ := pFall (mcb_7 rfl) H
          replace H := pRun (ls' := [.ref 0, .int p1, .int p2, .int v2]) (st' := [.ref 0]) 1 rfl H
          replace H := pGetR (r := 1) (pRf hS (by decide +kernel)) rfl H
          replace H := pRun (ls' := [.ref 0, .int p1, .int p2, .int v2]) (st' := [.int (kI 0), .ref 1]) 1 rfl H
          obtain ⟨M3, eM3, H⟩ := pPutN (j := 0) rfl H
          refine pG_put (M2 := M3) eM3 ?_
          replace H := pRun (ls' := [.ref 0, .int p1, .int p2, .int v2]) (st' := [.int v2]) 1 rfl H
          exact pG_ret (pRetI H)
    · refine pG_neg (c := (f_33 p2) = 0) g2 ?_
      replace H := pRun (ls' := [.ref 0, .int p1, .int p2, .int (kI (-1))]) (st' := [.ref 0]) 1 rfl H
      replace H := pGetR (r := 6) (pRf hS (by decide +kernel)) rfl H
      replace H := pRun (ls' := [.ref 0, .int p1, .int p2, .int (kI (-1))]) (st' := [.ref 0, .ref 6]) 1 rfl H
      replace H := pGetR (r := 18) (pRf hS (by decide +kernel)) rfl H
      replace H := pGetR (r := 24) (pRf hS (by decide +kernel)) rfl H
      replace H := pRun (ls' := [.ref 0, .int p1, .int p2, .int (kI (-1))]) (st' := [.int p2, .ref 24, .ref 6]) 1 rfl H
      obtain ⟨g3, H⟩ := pAld (n := 4) (r := 30 + 11 * ix p2) (pArL hS (show pAr 24 4 30 11 2 = true by decide +kernel)) (fun h => pArR hS (show pAr 24 4 30 11 2 = true by decide +kernel) h) H
      refine pG_gd g3 ?_
      obtain ⟨rv, h1, hc, H⟩ := pCalV 174 1 6 (as := [.ref (30 + 11 * ix p2)]) (rest := []) rfl (by decide) (by decide +kernel) rfl rfl H
      obtain ⟨v2, M2, hD, H⟩ := pUseI (D_174_ok hS (pArK (show pAr 24 4 30 11 2 = true by decide +kernel) (by decide) g3) hc) H
      refine pG_call (x := v2) (M1 := M2) hD ?_
      replace H := pRun (ls' := [.ref 0, .int p1, .int p2, .int v2]) (st' := []) 1 rfl H
      obtain ⟨g0, _, H⟩ := pGo (n1 := 6) rfl (mcb_7 rfl) H
      replace H := pRun (ls' := [.ref 0, .int p1, .int p2, .int v2]) (st' := [.ref 0]) 1 rfl H
      replace H := pGetR (r := 1) (pRf hS (by decide +kernel)) rfl H
      replace H := pRun (ls' := [.ref 0, .int p1, .int p2, .int v2]) (st' := [.int (kI 0), .ref 1]) 1 rfl H
      obtain ⟨M3, eM3, H⟩ := pPutN (j := 0) rfl H
      refine pG_put (M2 := M3) eM3 ?_
      replace H := pRun (ls' := [.ref 0, .int p1, .int p2, .int v2]) (st' := [.int v2]) 1 rfl H
      exact pG_ret (pRetI H)
def l_7 (p2 : Int32) : List (Nat × Nat) := [(1, 1), (3, 999), (4, 999), (5, 999), (6, 3), (6, 4), (6, 5), (1, 0), (14, 0), (14, 1), ((37 + 11 * ix p2), 0), ((37 + 11 * ix p2) + 1, 999), ((37 + 11 * ix p2) + 2, 999), ((37 + 11 * ix p2) + 3, 999), (15, 999), (16, 999), (17, 999), (7, 0), (7, 1), ((30 + 11 * ix p2), 0), ((30 + 11 * ix p2), 1), ((30 + 11 * ix p2) + 1, 999), ((30 + 11 * ix p2) + 2, 999), ((30 + 11 * ix p2) + 3, 999), ((30 + 11 * ix p2) + 4, 999), ((30 + 11 * ix p2) + 5, 999), (12, 999), (8, 999), (9, 999), (10, 999), (11, 999)]
theorem F_7 {p1 : Int32} {p2 : Int32} {M : pMem} {v : Int32} {N : pMem} (h : D_7 p1 p2 M v N) : pFr (l_7 p2) M N :=
  (show pTf (l_7 p2) M (D_7 p1 p2 M) from (tf_call pFr_refl (fun _ _ h => F_170 h) [0, 1, 2, 3, 4, 5, 6] rfl fun _ M1 f1 => (tf_if (tf_if (tf_put f1 7 rfl fun M2 f2 => (tf_ret f2)) (tf_if (tf_put f1 7 rfl fun M2 f2 => (tf_ret f2)) (tf_gd fun g4 => (tf_call f1 (fun _ _ h => F_181 (pArK (show pAr 25 4 37 11 3 = true by decide +kernel) (by decide) g4) h) [8, 9, 10, 11, 12, 13, 5, 6, 4, 14, 15, 16] rfl fun _ M2 f2 => (tf_put f2 7 rfl fun M3 f3 => (tf_ret f3)))))) (tf_if (tf_if (tf_put f1 7 rfl fun M2 f2 => (tf_ret f2)) (tf_if (tf_put f1 7 rfl fun M2 f2 => (tf_ret f2)) (tf_gd fun g5 => (tf_call f1 (fun _ _ h => F_181 (pArK (show pAr 25 4 37 11 3 = true by decide +kernel) (by decide) g5) h) [8, 9, 10, 11, 12, 13, 5, 6, 4, 14, 15, 16] rfl fun _ M2 f2 => (tf_put f2 7 rfl fun M3 f3 => (tf_ret f3)))))) (tf_gd fun g3 => (tf_call f1 (fun _ _ h => F_174 (pArK (show pAr 24 4 30 11 2 = true by decide +kernel) (by decide) g3) h) [17, 18, 19, 20, 21, 22, 23, 24, 25, 5, 6, 4, 26, 27, 28, 29, 30] rfl fun _ M2 f2 => (tf_put f2 7 rfl fun M3 f3 => (tf_ret f3)))))))) v N h
/-- TwoCamps.fault(I)I -/
def D_8 (p1 : Int32) (M : pMem) : pT Int32 := tIf (¬ p1 = 0) (tIf (¬ p1 = (kI 1)) (tRet (kI (-1)) M) (tRet (M 6 5) M)) (tRet (M 6 4) M)
theorem D_8_ok {X : aX} {F d : Nat} {K : Nat → aK} (hS : pS K) {p1 : Int32} {M : pMem} {out : Option Value × aH} (H : aM X F d 8 [.ref 0, .int p1] (pH K M) = some out) : pG eI K out (D_8 p1 M) := by
  obtain ⟨d', g0, _, H⟩ := pEnt (n := 2) (ls := [.ref 0, .int p1]) (mcb_8 rfl) (by decide +kernel) rfl H
  unfold D_8
  replace H := pRun (ls' := [.ref 0, .int p1]) (st' := [.int p1]) 1 rfl H
  rcases pIf0 (n1 := 2) rfl (mcb_8 rfl) (mcb_8 rfl) H with ⟨g1, g0, _, H⟩ | ⟨g1, g0, _, H⟩
  · refine pG_pos (c := ¬ p1 = 0) g1 ?_
    replace H := pRun (ls' := [.ref 0, .int p1]) (st' := [.int (kI 1), .int p1]) 2 rfl H
    rcases pIfc (n1 := 4) rfl (mcb_8 rfl) (mcb_8 rfl) H with ⟨g2, g0, _, H⟩ | ⟨g2, g0, _, H⟩
    · refine pG_pos (c := ¬ p1 = (kI 1)) g2 ?_
      replace H := pRun (ls' := [.ref 0, .int p1]) (st' := [.int (kI (-1))]) 1 rfl H
      obtain ⟨g0, _, H⟩ := pFall (mcb_8 rfl) H
      exact pG_ret (pRetI H)
    · refine pG_neg (c := ¬ p1 = (kI 1)) g2 ?_
      replace H := pRun (ls' := [.ref 0, .int p1]) (st' := [.ref 0]) 1 rfl H
      replace H := pGetR (r := 6) (pRf hS (by decide +kernel)) rfl H
      replace H := pGetN (v := M 6 5) rfl (by decide) H
      obtain ⟨g0, _, H⟩ := pGo (n1 := 5) rfl (mcb_8 rfl) H
      exact pG_ret (pRetI H)
  · refine pG_neg (c := ¬ p1 = 0) g1 ?_
    replace H := pRun (ls' := [.ref 0, .int p1]) (st' := [.ref 0]) 1 rfl H
    replace H := pGetR (r := 6) (pRf hS (by decide +kernel)) rfl H
    replace H := pGetN (v := M 6 4) rfl (by decide) H
    exact pG_ret (pRetI H)
def l_8 : List (Nat × Nat) := []
theorem F_8 {p1 : Int32} {M : pMem} {v : Int32} {N : pMem} (h : D_8 p1 M v N) : pFr (l_8) M N :=
  (show pTf (l_8) M (D_8 p1 M) from (tf_if (tf_if (tf_ret pFr_refl) (tf_ret pFr_refl)) (tf_ret pFr_refl))) v N h
/-- TwoCamps.force(I)I -/
def D_9 (p1 : Int32) (M : pMem) : pT Int32 := tIf (¬ (f_33 p1) = 0) (tPut (aPut M 18 7 p1) fun M1 => tRet (M 18 7) M1) (tRet (kI (-1)) M)
theorem D_9_ok {X : aX} {F d : Nat} {K : Nat → aK} (hS : pS K) {p1 : Int32} {M : pMem} {out : Option Value × aH} (H : aM X F d 9 [.ref 0, .int p1] (pH K M) = some out) : pG eI K out (D_9 p1 M) := by
  obtain ⟨d', g0, _, H⟩ := pEnt (n := 3) (ls := [.ref 0, .int p1, aD]) (mcb_9 rfl) (by decide +kernel) rfl H
  unfold D_9
  replace H := pRun (ls' := [.ref 0, .int p1, aD]) (st' := [.int p1]) 1 rfl H
  obtain ⟨rv, h1, hc, H⟩ := pCalT 33 1 (as := [.int p1]) (rest := []) rfl (by decide) (by decide +kernel) rfl rfl H
  replace H := pUseF (f_33_ok hS hc) H
  rcases pIf0 (n1 := 2) rfl (mcb_9 rfl) (mcb_9 rfl) H with ⟨g1, g0, _, H⟩ | ⟨g1, g0, _, H⟩
  · refine pG_pos (c := ¬ (f_33 p1) = 0) g1 ?_
    replace H := pRun (ls' := [.ref 0, .int p1, aD]) (st' := [.ref 0]) 1 rfl H
    replace H := pGetR (r := 18) (pRf hS (by decide +kernel)) rfl H
    replace H := pGetN (v := M 18 7) rfl (by decide) H
    replace H := pRun (ls' := [.ref 0, .int p1, .int (M 18 7)]) (st' := [.ref 0]) 2 rfl H
    replace H := pGetR (r := 18) (pRf hS (by decide +kernel)) rfl H
    replace H := pRun (ls' := [.ref 0, .int p1, .int (M 18 7)]) (st' := [.int p1, .ref 18]) 1 rfl H
    obtain ⟨M1, eM1, H⟩ := pPutN (j := 7) rfl H
    refine pG_put (M2 := M1) eM1 ?_
    replace H := pRun (ls' := [.ref 0, .int p1, .int (M 18 7)]) (st' := [.int (M 18 7)]) 1 rfl H
    exact pG_ret (pRetI H)
  · refine pG_neg (c := ¬ (f_33 p1) = 0) g1 ?_
    replace H := pRun (ls' := [.ref 0, .int p1, aD]) (st' := [.int (kI (-1))]) 1 rfl H
    exact pG_ret (pRetI H)
def l_9 : List (Nat × Nat) := [(18, 7)]
theorem F_9 {p1 : Int32} {M : pMem} {v : Int32} {N : pMem} (h : D_9 p1 M v N) : pFr (l_9) M N :=
  (show pTf (l_9) M (D_9 p1 M) from (tf_if (tf_put pFr_refl 0 rfl fun M1 f1 => (tf_ret f1)) (tf_ret pFr_refl))) v N h
/-- TwoCamps.day(III)I -/
def D_10 (p1 : Int32) (p2 : Int32) (p3 : Int32) (M : pMem) : pT Int32 := tIf ((f_34 p1) = 0) (tRet (kI (-1)) M) (tIf (p2 < 0) (tRet (kI (-1)) M) (tIf ((kI 9) < p2) (tRet (kI (-1)) M) (tIf (p1 = (kI 1)) (tIf (p3 = (kI (-1))) (tIf ((M 19 4) < (kI 60)) (tCall (D_30 p1 p2 p3 M) fun v1 M1 => tRet v1 M1) (tRet (kI (-1)) M)) (tIf ((f_32 p3) = 0) (tRet (kI (-1)) M) (tIf ((M 19 4) < (kI 60)) (tCall (D_30 p1 p2 p3 M) fun v1 M1 => tRet v1 M1) (tRet (kI (-1)) M)))) (tIf (¬ p2 = 0) (tRet (kI (-1)) M) (tIf (p3 = (kI (-1))) (tIf ((M 19 4) < (kI 60)) (tCall (D_30 p1 p2 p3 M) fun v1 M1 => tRet v1 M1) (tRet (kI (-1)) M)) (tIf ((f_32 p3) = 0) (tRet (kI (-1)) M) (tIf ((M 19 4) < (kI 60)) (tCall (D_30 p1 p2 p3 M) fun v1 M1 => tRet v1 M1) (tRet (kI (-1)) M))))))))
theorem D_10_ok {X : aX} {F d : Nat} {K : Nat → aK} (hS : pS K) {p1 : Int32} {p2 : Int32} {p3 : Int32} {M : pMem} {out : Option Value × aH} (H : aM X F d 10 [.ref 0, .int p1, .int p2, .int p3] (pH K M) = some out) : pG eI K out (D_10 p1 p2 p3 M) := by
  obtain ⟨d', g0, _, H⟩ := pEnt (n := 5) (ls := [.ref 0, .int p1, .int p2, .int p3, aD]) (mcb_10 rfl) (by decide +kernel) rfl H
  unfold D_10
  replace H := pRun (ls' := [.ref 0, .int p1, .int p2, .int p3, aD]) (st' := [.int p1]) 1 rfl H
  obtain ⟨rv, h1, hc, H⟩ := pCalT 34 1 (as := [.int p1]) (rest := []) rfl (by decide) (by decide +kernel) rfl rfl H
  replace H := pUseF (f_34_ok hS hc) H
  rcases pIf0 (n1 := 8) rfl (mcb_10 rfl) (mcb_10 rfl) H with ⟨g1, g0, _, H⟩ | ⟨g1, g0, _, H⟩
  · refine pG_pos (c := (f_34 p1) = 0) g1 ?_
    replace H := pRun (ls' := [.ref 0, .int p1, .int p2, .int p3, aD]) (st' := [.int (kI 0)]) 1 rfl H
    obtain ⟨g0, _, H⟩ := pFall (mcb_10 rfl) H
    replace H := pRun (ls' := [.ref 0, .int p1, .int p2, .int p3, .int (kI 0)]) (st' := [.int (kI 0)]) 2 rfl H
    rcases pIf0 (n1 := 11) rfl (mcb_10 rfl) (mcb_10 rfl) H with ⟨g2, g0, _, H⟩ | ⟨g2, g0, _, H⟩
    · replace H := pRun (ls' := [.ref 0, .int p1, .int p2, .int p3, .int (kI 0)]) (st' := [.int (kI (-1))]) 1 rfl H
      exact pG_ret (pRetI H)
    · exact absurd (show ¬ ((kI 0) = 0) from g2) (by decide)
  · refine pG_neg (c := (f_34 p1) = 0) g1 ?_
    replace H := pRun (ls' := [.ref 0, .int p1, .int p2, .int p3, aD]) (st' := [.int p2]) 1 rfl H
    rcases pIf0 (n1 := 8) rfl (mcb_10 rfl) (mcb_10 rfl) H with ⟨g2, g0, _, H⟩ | ⟨g2, g0, _, H⟩
    · refine pG_pos (c := p2 < 0) g2 ?_
      replace H := pRun (ls' := [.ref 0, .int p1, .int p2, .int p3, aD]) (st' := [.int (kI 0)]) 1 rfl H
      obtain ⟨g0, _, H⟩ := pFall (mcb_10 rfl) H
      replace H := pRun (ls' := [.ref 0, .int p1, .int p2, .int p3, .int (kI 0)]) (st' := [.int (kI 0)]) 2 rfl H
      rcases pIf0 (n1 := 11) rfl (mcb_10 rfl) (mcb_10 rfl) H with ⟨g3, g0, _, H⟩ | ⟨g3, g0, _, H⟩
      · replace H := pRun (ls' := [.ref 0, .int p1, .int p2, .int p3, .int (kI 0)]) (st' := [.int (kI (-1))]) 1 rfl H
        exact pG_ret (pRetI H)
      · exact absurd (show ¬ ((kI 0) = 0) from g3) (by decide)
    · refine pG_neg (c := p2 < 0) g2 ?_
      replace H := pRun (ls' := [.ref 0, .int p1, .int p2, .int p3, aD]) (st' := [.int (kI 9), .int p2]) 2 rfl H
      rcases pIfc (n1 := 8) rfl (mcb_10 rfl) (mcb_10 rfl) H with ⟨g3, g0, _, H⟩ | ⟨g3, g0, _, H⟩
      · refine pG_pos (c := (kI 9) < p2) g3 ?_
        replace H := pRun (ls' := [.ref 0, .int p1, .int p2, .int p3, aD]) (st' := [.int (kI 0)]) 1 rfl H
        obtain ⟨g0, _, H⟩ := pFall (mcb_10 rfl) H
        replace H := pRun (ls' := [.ref 0, .int p1, .int p2, .int p3, .int (kI 0)]) (st' := [.int (kI 0)]) 2 rfl H
        rcases pIf0 (n1 := 11) rfl (mcb_10 rfl) (mcb_10 rfl) H with ⟨g4, g0, _, H⟩ | ⟨g4, g0, _, H⟩
        · replace H := pRun (ls' := [.ref 0, .int p1, .int p2, .int p3, .int (kI 0)]) (st' := [.int (kI (-1))]) 1 rfl H
          exact pG_ret (pRetI H)
        · exact absurd (show ¬ ((kI 0) = 0) from g4) (by decide)
      · refine pG_neg (c := (kI 9) < p2) g3 ?_
        replace H := pRun (ls' := [.ref 0, .int p1, .int p2, .int p3, aD]) (st' := [.int (kI 1), .int p1]) 2 rfl H
        rcases pIfc (n1 := 5) rfl (mcb_10 rfl) (mcb_10 rfl) H with ⟨g4, g0, _, H⟩ | ⟨g4, g0, _, H⟩
        · refine pG_pos (c := p1 = (kI 1)) g4 ?_
          replace H := pRun (ls' := [.ref 0, .int p1, .int p2, .int p3, aD]) (st' := [.int (kI (-1)), .int p3]) 2 rfl H
          rcases pIfc (n1 := 7) rfl (mcb_10 rfl) (mcb_10 rfl) H with ⟨g5, g0, _, H⟩ | ⟨g5, g0, _, H⟩
          · refine pG_pos (c := p3 = (kI (-1))) g5 ?_
            replace H := pRun (ls' := [.ref 0, .int p1, .int p2, .int p3, aD]) (st' := [.int (kI 1)]) 1 rfl H
            obtain ⟨g0, _, H⟩ := pGo (n1 := 9) rfl (mcb_10 rfl) H
            replace H := pRun (ls' := [.ref 0, .int p1, .int p2, .int p3, .int (kI 1)]) (st' := [.int (kI 1)]) 2 rfl H
            rcases pIf0 (n1 := 11) rfl (mcb_10 rfl) (mcb_10 rfl) H with ⟨g6, g0, _, H⟩ | ⟨g6, g0, _, H⟩
            · exact absurd (show (kI 1) = 0 from g6) (by decide)
            · replace H := pRun (ls' := [.ref 0, .int p1, .int p2, .int p3, .int (kI 1)]) (st' := [.ref 0]) 1 rfl H
              replace H := pGetR (r := 18) (pRf hS (by decide +kernel)) rfl H
              replace H := pGetR (r := 19) (pRf hS (by decide +kernel)) rfl H
              replace H := pGetN (v := M 19 4) rfl (by decide) H
              replace H := pRun (ls' := [.ref 0, .int p1, .int p2, .int p3, .int (kI 1)]) (st' := [.int (kI 60), .int (M 19 4)]) 1 rfl H
              rcases pIfc (n1 := 12) rfl (mcb_10 rfl) (mcb_10 rfl) H with ⟨g7, g0, _, H⟩ | ⟨g7, g0, _, H⟩
              · refine pG_pos (c := (M 19 4) < (kI 60)) g7 ?_
                replace H := pRun (ls' := [.ref 0, .int p1, .int p2, .int p3, .int (kI 1)]) (st' := [.int p3, .int p2, .int p1, .ref 0]) 4 rfl H
                obtain ⟨rv, h1, hc, H⟩ := pCalV 30 3 0 (as := [.int p1, .int p2, .int p3]) (rest := []) rfl (by decide) (by decide +kernel) rfl rfl H
                obtain ⟨v1, M1, hD, H⟩ := pUseI (D_30_ok hS hc) H
                refine pG_call (x := v1) (M1 := M1) hD ?_
                exact pG_ret (pRetI H)
              · refine pG_neg (c := (M 19 4) < (kI 60)) g7 ?_
                replace H := pRun (ls' := [.ref 0, .int p1, .int p2, .int p3, .int (kI 1)]) (st' := [.int (kI (-1))]) 1 rfl H
                exact pG_ret (pRetI H)
          · refine pG_neg (c := p3 = (kI (-1))) g5 ?_
            replace H := pRun (ls' := [.ref 0, .int p1, .int p2, .int p3, aD]) (st' := [.int p3]) 1 rfl H
            obtain ⟨rv, h1, hc, H⟩ := pCalT 32 1 (as := [.int p3]) (rest := []) rfl (by decide) (by decide +kernel) rfl rfl H
            replace H := pUseF (f_32_ok hS hc) H
            rcases pIf0 (n1 := 8) rfl (mcb_10 rfl) (mcb_10 rfl) H with ⟨g6, g0, _, H⟩ | ⟨g6, g0, _, H⟩
            · refine pG_pos (c := (f_32 p3) = 0) g6 ?_
              replace H := pRun (ls' := [.ref 0, .int p1, .int p2, .int p3, aD]) (st' := [.int (kI 0)]) 1 rfl H
              obtain ⟨g0, _, H⟩ := pFall (mcb_10 rfl) H
              replace H := pRun (ls' := [.ref 0, .int p1, .int p2, .int p3, .int (kI 0)]) (st' := [.int (kI 0)]) 2 rfl H
              rcases pIf0 (n1 := 11) rfl (mcb_10 rfl) (mcb_10 rfl) H with ⟨g7, g0, _, H⟩ | ⟨g7, g0, _, H⟩
              · replace H := pRun (ls' := [.ref 0, .int p1, .int p2, .int p3, .int (kI 0)]) (st' := [.int (kI (-1))]) 1 rfl H
                exact pG_ret (pRetI H)
              · exact absurd (show ¬ ((kI 0) = 0) from g7) (by decide)
            · refine pG_neg (c := (f_32 p3) = 0) g6 ?_
              replace H := pRun (ls' := [.ref 0, .int p1, .int p2, .int p3, aD]) (st' := [.int (kI 1)]) 1 rfl H
              obtain ⟨g0, _, H⟩ := pGo (n1 := 9) rfl (mcb_10 rfl) H
              replace H := pRun (ls' := [.ref 0, .int p1, .int p2, .int p3, .int (kI 1)]) (st' := [.int (kI 1)]) 2 rfl H
              rcases pIf0 (n1 := 11) rfl (mcb_10 rfl) (mcb_10 rfl) H with ⟨g7, g0, _, H⟩ | ⟨g7, g0, _, H⟩
              · exact absurd (show (kI 1) = 0 from g7) (by decide)
              · replace H := pRun (ls' := [.ref 0, .int p1, .int p2, .int p3, .int (kI 1)]) (st' := [.ref 0]) 1 rfl H
                replace H := pGetR (r := 18) (pRf hS (by decide +kernel)) rfl H
                replace H := pGetR (r := 19) (pRf hS (by decide +kernel)) rfl H
                replace H := pGetN (v := M 19 4) rfl (by decide) H
                replace H := pRun (ls' := [.ref 0, .int p1, .int p2, .int p3, .int (kI 1)]) (st' := [.int (kI 60), .int (M 19 4)]) 1 rfl H
                rcases pIfc (n1 := 12) rfl (mcb_10 rfl) (mcb_10 rfl) H with ⟨g8, g0, _, H⟩ | ⟨g8, g0, _, H⟩
                · refine pG_pos (c := (M 19 4) < (kI 60)) g8 ?_
                  replace H := pRun (ls' := [.ref 0, .int p1, .int p2, .int p3, .int (kI 1)]) (st' := [.int p3, .int p2, .int p1, .ref 0]) 4 rfl H
                  obtain ⟨rv, h1, hc, H⟩ := pCalV 30 3 0 (as := [.int p1, .int p2, .int p3]) (rest := []) rfl (by decide) (by decide +kernel) rfl rfl H
                  obtain ⟨v1, M1, hD, H⟩ := pUseI (D_30_ok hS hc) H
                  refine pG_call (x := v1) (M1 := M1) hD ?_
                  exact pG_ret (pRetI H)
                · refine pG_neg (c := (M 19 4) < (kI 60)) g8 ?_
                  replace H := pRun (ls' := [.ref 0, .int p1, .int p2, .int p3, .int (kI 1)]) (st' := [.int (kI (-1))]) 1 rfl H
                  exact pG_ret (pRetI H)
        · refine pG_neg (c := p1 = (kI 1)) g4 ?_
          replace H := pRun (ls' := [.ref 0, .int p1, .int p2, .int p3, aD]) (st' := [.int p2]) 1 rfl H
          rcases pIf0 (n1 := 8) rfl (mcb_10 rfl) (mcb_10 rfl) H with ⟨g5, g0, _, H⟩ | ⟨g5, g0, _, H⟩
          · refine pG_pos (c := ¬ p2 = 0) g5 ?_
            replace H := pRun (ls' := [.ref 0, .int p1, .int p2, .int p3, aD]) (st' := [.int (kI 0)]) 1 rfl H
            obtain ⟨g0, _, H⟩ := pFall (mcb_10 rfl) H
            replace H := pRun (ls' := [.ref 0, .int p1, .int p2, .int p3, .int (kI 0)]) (st' := [.int (kI 0)]) 2 rfl H
            rcases pIf0 (n1 := 11) rfl (mcb_10 rfl) (mcb_10 rfl) H with ⟨g6, g0, _, H⟩ | ⟨g6, g0, _, H⟩
            · replace H := pRun (ls' := [.ref 0, .int p1, .int p2, .int p3, .int (kI 0)]) (st' := [.int (kI (-1))]) 1 rfl H
              exact pG_ret (pRetI H)
            · exact absurd (show ¬ ((kI 0) = 0) from g6) (by decide)
          · refine pG_neg (c := ¬ p2 = 0) g5 ?_
            replace H := pRun (ls' := [.ref 0, .int p1, .int p2, .int p3, aD]) (st' := [.int (kI (-1)), .int p3]) 2 rfl H
            rcases pIfc (n1 := 7) rfl (mcb_10 rfl) (mcb_10 rfl) H with ⟨g6, g0, _, H⟩ | ⟨g6, g0, _, H⟩
            · refine pG_pos (c := p3 = (kI (-1))) g6 ?_
              replace H := pRun (ls' := [.ref 0, .int p1, .int p2, .int p3, aD]) (st' := [.int (kI 1)]) 1 rfl H
              obtain ⟨g0, _, H⟩ := pGo (n1 := 9) rfl (mcb_10 rfl) H
              replace H := pRun (ls' := [.ref 0, .int p1, .int p2, .int p3, .int (kI 1)]) (st' := [.int (kI 1)]) 2 rfl H
              rcases pIf0 (n1 := 11) rfl (mcb_10 rfl) (mcb_10 rfl) H with ⟨g7, g0, _, H⟩ | ⟨g7, g0, _, H⟩
              · exact absurd (show (kI 1) = 0 from g7) (by decide)
              · replace H := pRun (ls' := [.ref 0, .int p1, .int p2, .int p3, .int (kI 1)]) (st' := [.ref 0]) 1 rfl H
                replace H := pGetR (r := 18) (pRf hS (by decide +kernel)) rfl H
                replace H := pGetR (r := 19) (pRf hS (by decide +kernel)) rfl H
                replace H := pGetN (v := M 19 4) rfl (by decide) H
                replace H := pRun (ls' := [.ref 0, .int p1, .int p2, .int p3, .int (kI 1)]) (st' := [.int (kI 60), .int (M 19 4)]) 1 rfl H
                rcases pIfc (n1 := 12) rfl (mcb_10 rfl) (mcb_10 rfl) H with ⟨g8, g0, _, H⟩ | ⟨g8, g0, _, H⟩
                · refine pG_pos (c := (M 19 4) < (kI 60)) g8 ?_
                  replace H := pRun (ls' := [.ref 0, .int p1, .int p2, .int p3, .int (kI 1)]) (st' := [.int p3, .int p2, .int p1, .ref 0]) 4 rfl H
                  obtain ⟨rv, h1, hc, H⟩ := pCalV 30 3 0 (as := [.int p1, .int p2, .int p3]) (rest := []) rfl (by decide) (by decide +kernel) rfl rfl H
                  obtain ⟨v1, M1, hD, H⟩ := pUseI (D_30_ok hS hc) H
                  refine pG_call (x := v1) (M1 := M1) hD ?_
                  exact pG_ret (pRetI H)
                · refine pG_neg (c := (M 19 4) < (kI 60)) g8 ?_
                  replace H := pRun (ls' := [.ref 0, .int p1, .int p2, .int p3, .int (kI 1)]) (st' := [.int (kI (-1))]) 1 rfl H
                  exact pG_ret (pRetI H)
            · refine pG_neg (c := p3 = (kI (-1))) g6 ?_
              replace H := pRun (ls' := [.ref 0, .int p1, .int p2, .int p3, aD]) (st' := [.int p3]) 1 rfl H
              obtain ⟨rv, h1, hc, H⟩ := pCalT 32 1 (as := [.int p3]) (rest := []) rfl (by decide) (by decide +kernel) rfl rfl H
              replace H := pUseF (f_32_ok hS hc) H
              rcases pIf0 (n1 := 8) rfl (mcb_10 rfl) (mcb_10 rfl) H with ⟨g7, g0, _, H⟩ | ⟨g7, g0, _, H⟩
              · refine pG_pos (c := (f_32 p3) = 0) g7 ?_
                replace H := pRun (ls' := [.ref 0, .int p1, .int p2, .int p3, aD]) (st' := [.int (kI 0)]) 1 rfl H
                obtain ⟨g0, _, H⟩ := pFall (mcb_10 rfl) H
                replace H := pRun (ls' := [.ref 0, .int p1, .int p2, .int p3, .int (kI 0)]) (st' := [.int (kI 0)]) 2 rfl H
                rcases pIf0 (n1 := 11) rfl (mcb_10 rfl) (mcb_10 rfl) H with ⟨g8, g0, _, H⟩ | ⟨g8, g0, _, H⟩
                · replace H := pRun (ls' := [.ref 0, .int p1, .int p2, .int p3, .int (kI 0)]) (st' := [.int (kI (-1))]) 1 rfl H
                  exact pG_ret (pRetI H)
                · exact absurd (show ¬ ((kI 0) = 0) from g8) (by decide)
              · refine pG_neg (c := (f_32 p3) = 0) g7 ?_
                replace H := pRun (ls' := [.ref 0, .int p1, .int p2, .int p3, aD]) (st' := [.int (kI 1)]) 1 rfl H
                obtain ⟨g0, _, H⟩ := pGo (n1 := 9) rfl (mcb_10 rfl) H
                replace H := pRun (ls' := [.ref 0, .int p1, .int p2, .int p3, .int (kI 1)]) (st' := [.int (kI 1)]) 2 rfl H
                rcases pIf0 (n1 := 11) rfl (mcb_10 rfl) (mcb_10 rfl) H with ⟨g8, g0, _, H⟩ | ⟨g8, g0, _, H⟩
                · exact absurd (show (kI 1) = 0 from g8) (by decide)
                · replace H := pRun (ls' := [.ref 0, .int p1, .int p2, .int p3, .int (kI 1)]) (st' := [.ref 0]) 1 rfl H
                  replace H := pGetR (r := 18) (pRf hS (by decide +kernel)) rfl H
                  replace H := pGetR (r := 19) (pRf hS (by decide +kernel)) rfl H
                  replace H := pGetN (v := M 19 4) rfl (by decide) H
                  replace H := pRun (ls' := [.ref 0, .int p1, .int p2, .int p3, .int (kI 1)]) (st' := [.int (kI 60), .int (M 19 4)]) 1 rfl H
                  rcases pIfc (n1 := 12) rfl (mcb_10 rfl) (mcb_10 rfl) H with ⟨g9, g0, _, H⟩ | ⟨g9, g0, _, H⟩
                  · refine pG_pos (c := (M 19 4) < (kI 60)) g9 ?_
                    replace H := pRun (ls' := [.ref 0, .int p1, .int p2, .int p3, .int (kI 1)]) (st' := [.int p3, .int p2, .int p1, .ref 0]) 4 rfl H
                    obtain ⟨rv, h1, hc, H⟩ := pCalV 30 3 0 (as := [.int p1, .int p2, .int p3]) (rest := []) rfl (by decide) (by decide +kernel) rfl rfl H
                    obtain ⟨v1, M1, hD, H⟩ := pUseI (D_30_ok hS hc) H
                    refine pG_call (x := v1) (M1 := M1) hD ?_
                    exact pG_ret (pRetI H)
                  · refine pG_neg (c := (M 19 4) < (kI 60)) g9 ?_
                    replace H := pRun (ls' := [.ref 0, .int p1, .int p2, .int p3, .int (kI 1)]) (st' := [.int (kI (-1))]) 1 rfl H
                    exact pG_ret (pRetI H)
def l_10 : List (Nat × Nat) := [(19, 6), (19, 7), (19, 8), (19, 9), (19, 10), (19, 11), (23, 999), (22, 999), (19, 2), (19, 4), (19, 5), (19, 3), (26, 999)]
theorem F_10 {p1 : Int32} {p2 : Int32} {p3 : Int32} {M : pMem} {v : Int32} {N : pMem} (h : D_10 p1 p2 p3 M v N) : pFr (l_10) M N :=
  (show pTf (l_10) M (D_10 p1 p2 p3 M) from (tf_if (tf_ret pFr_refl) (tf_if (tf_ret pFr_refl) (tf_if (tf_ret pFr_refl) (tf_if (tf_if (tf_if (tf_call pFr_refl (fun _ _ h => F_30 h) [0, 1, 2, 3, 4, 5, 6, 7, 8, 9, 10, 11, 12] rfl fun _ M1 f1 => (tf_ret f1)) (tf_ret pFr_refl)) (tf_if (tf_ret pFr_refl) (tf_if (tf_call pFr_refl (fun _ _ h => F_30 h) [0, 1, 2, 3, 4, 5, 6, 7, 8, 9, 10, 11, 12] rfl fun _ M1 f1 => (tf_ret f1)) (tf_ret pFr_refl)))) (tf_if (tf_ret pFr_refl) (tf_if (tf_if (tf_call pFr_refl (fun _ _ h => F_30 h) [0, 1, 2, 3, 4, 5, 6, 7, 8, 9, 10, 11, 12] rfl fun _ M1 f1 => (tf_ret f1)) (tf_ret pFr_refl)) (tf_if (tf_ret pFr_refl) (tf_if (tf_call pFr_refl (fun _ _ h => F_30 h) [0, 1, 2, 3, 4, 5, 6, 7, 8, 9, 10, 11, 12] rfl fun _ M1 f1 => (tf_ret f1)) (tf_ret pFr_refl)))))))))) v N h
/-- TwoCamps.plan(I)I -/
def S_11_3 (p1 : Int32) (P3 : Nat → Int32 → Int32 → pMem → pT Int32) (y2 : Nat) (x3 : Int32) (x4 : Int32) (M : pMem) : pT Int32 := tIf ((M y2 0) ≤ x4) (tRet x3 M) (tIf ((kI 60) ≤ (M 19 4)) (tRet x3 M) (tGd (pIn x4 24) <| tGd (pIn x4 24) <| tGd (pIn x4 24) <| tCall (D_30 (M (y2 + 1) (ix x4)) (M (y2 + 2) (ix x4)) (M (y2 + 3) (ix x4)) M) fun v1 M1 => P3 y2 (x3 + kI 1) (x4 + kI 1) M1))
def C_11 (p1 : Int32) (P3 : Nat → Int32 → Int32 → pMem → pT Int32) : Prop := (∀ (y2 : Nat) (x3 : Int32) (x4 : Int32) M v N, S_11_3 p1 P3 y2 x3 x4 M v N → P3 y2 x3 x4 M v N)
def L_11_3 (p1 : Int32) (y2 : Nat) (x3 : Int32) (x4 : Int32) (M : pMem) : pT Int32 := fun v N => ∀ P : (Nat → Int32 → Int32 → pMem → pT Int32), C_11 p1 P → P y2 x3 x4 M v N
def D_11 (p1 : Int32) (M : pMem) : pT Int32 := tIf (¬ (f_33 p1) = 0) (tGd (pIn p1 4) <| L_11_3 p1 (37 + 11 * ix p1) (kI 0) (kI 0) M) (tRet (kI (-1)) M)
theorem K_11 {X : aX} {F d : Nat} {K : Nat → aK} (hS : pS K) {p1 : Int32} {out : Option Value × aH} (P3 : Nat → Int32 → Int32 → pMem → pT Int32) (hC : C_11 p1 P3) : ∀ f, (∀ (y2 : Nat) (x3 : Int32) (x4 : Int32) (hy2 : pK 3 y2 = true) M, pm X F d 11 f 3 [.iload 4, .aload 2, .getfield 26103000, .if_icmp .ge 6] [.ref 0, .int p1, .ref y2, .int x3, .int x4] [] (pH K M) out → pG eI K out (P3 y2 x3 x4 M)) := by
  intro f
  induction f using Nat.strongRecOn with
  | _ f ih =>
    intro y2 x3 x4 hy2 M H
    refine pG_mono (fun v N h => hC y2 x3 x4 M v N h) ?_
    unfold S_11_3
    replace H := pRun (ls' := [.ref 0, .int p1, .ref y2, .int x3, .int x4]) (st' := [.ref y2, .int x4]) 2 rfl H
    replace H := pGetN (v := M y2 0) rfl (by decide) H
    rcases pIfc (n1 := 6) rfl (mcb_11 rfl) (mcb_11 rfl) H with ⟨g1, g0, _, H⟩ | ⟨g1, g0, _, H⟩
    · refine pG_pos (c := (M y2 0) ≤ x4) g1 ?_
      replace H := pRun (ls' := [.ref 0, .int p1, .ref y2, .int x3, .int x4]) (st' := [.int x3]) 1 rfl H
      exact pG_ret (pRetI H)
    · refine pG_neg (c := (M y2 0) ≤ x4) g1 ?_
      replace H := pRun (ls' := [.ref 0, .int p1, .ref y2, .int x3, .int x4]) (st' := [.ref 0]) 1 rfl H
      replace H := pGetR (r := 18) (pRf hS (by decide +kernel)) rfl H
      replace H := pGetR (r := 19) (pRf hS (by decide +kernel)) rfl H
      replace H := pGetN (v := M 19 4) rfl (by decide) H
      replace H := pRun (ls' := [.ref 0, .int p1, .ref y2, .int x3, .int x4]) (st' := [.int (kI 60), .int (M 19 4)]) 1 rfl H
      rcases pIfc (n1 := 6) rfl (mcb_11 rfl) (mcb_11 rfl) H with ⟨g2, g0, _, H⟩ | ⟨g2, g0, _, H⟩
      · refine pG_pos (c := (kI 60) ≤ (M 19 4)) g2 ?_
        replace H := pRun (ls' := [.ref 0, .int p1, .ref y2, .int x3, .int x4]) (st' := [.int x3]) 1 rfl H
        exact pG_ret (pRetI H)
      · refine pG_neg (c := (kI 60) ≤ (M 19 4)) g2 ?_
        replace H := pRun (ls' := [.ref 0, .int p1, .ref y2, .int x3, .int x4]) (st' := [.ref y2, .ref 0]) 2 rfl H
        replace H := pGetR (r := y2 + 1) (pRw hS hy2 (by decide +kernel)) rfl H
        replace H := pRun (ls' := [.ref 0, .int p1, .ref y2, .int x3, .int x4]) (st' := [.int x4, .ref (y2 + 1), .ref 0]) 1 rfl H
        obtain ⟨g3, H⟩ := pIld (n := 24) (pLt (pRl (n := 24) hy2 (by decide +kernel))) (pLn hS (pRl (n := 24) hy2 (by decide +kernel))) H
        refine pG_gd g3 ?_
        replace H := pRun (ls' := [.ref 0, .int p1, .ref y2, .int x3, .int x4]) (st' := [.ref y2, .int (M (y2 + 1) (ix x4)), .ref 0]) 1 rfl H
        replace H := pGetR (r := y2 + 2) (pRw hS hy2 (by decide +kernel)) rfl H
        replace H := pRun (ls' := [.ref 0, .int p1, .ref y2, .int x3, .int x4]) (st' := [.int x4, .ref (y2 + 2), .int (M (y2 + 1) (ix x4)), .ref 0]) 1 rfl H
        obtain ⟨g4, H⟩ := pIld (n := 24) (pLt (pRl (n := 24) hy2 (by decide +kernel))) (pLn hS (pRl (n := 24) hy2 (by decide +kernel))) H
        refine pG_gd g4 ?_
        replace H := pRun (ls' := [.ref 0, .int p1, .ref y2, .int x3, .int x4]) (st' := [.ref y2, .int (M (y2 + 2) (ix x4)), .int (M (y2 + 1) (ix x4)), .ref 0]) 1 rfl H
        replace H := pGetR (r := y2 + 3) (pRw hS hy2 (by decide +kernel)) rfl H
        replace H := pRun (ls' := [.ref 0, .int p1, .ref y2, .int x3, .int x4]) (st' := [.int x4, .ref (y2 + 3), .int (M (y2 + 2) (ix x4)), .int (M (y2 + 1) (ix x4)), .ref 0]) 1 rfl H
        obtain ⟨g5, H⟩ := pIld (n := 24) (pLt (pRl (n := 24) hy2 (by decide +kernel))) (pLn hS (pRl (n := 24) hy2 (by decide +kernel))) H
        refine pG_gd g5 ?_
        obtain ⟨rv, h1, hc, H⟩ := pCalV 30 3 0 (as := [.int (M (y2 + 1) (ix x4)), .int (M (y2 + 2) (ix x4)), .int (M (y2 + 3) (ix x4))]) (rest := []) rfl (by decide) (by decide +kernel) rfl rfl H
        obtain ⟨v1, M1, hD, H⟩ := pUseI (D_30_ok hS hc) H
        refine pG_call (x := v1) (M1 := M1) hD ?_
        replace H := pRun (ls' := [.ref 0, .int p1, .ref y2, .int (x3 + kI 1), .int (x4 + kI 1)]) (st' := []) 3 rfl H
        obtain ⟨g0, _, H⟩ := pGo (n1 := 3) rfl (mcb_11 rfl) H
        exact (ih _ (by omega)) _ _ _ hy2 _ H
theorem L_11_3_ok {X : aX} {F d : Nat} {K : Nat → aK} (hS : pS K) {p1 : Int32} {out : Option Value × aH} {f : Nat} {y2 : Nat} {x3 : Int32} {x4 : Int32} (hy2 : pK 3 y2 = true) {M : pMem} (H : pm X F d 11 f 3 [.iload 4, .aload 2, .getfield 26103000, .if_icmp .ge 6] [.ref 0, .int p1, .ref y2, .int x3, .int x4] [] (pH K M) out) : pG eI K out (L_11_3 p1 y2 x3 x4 M) := by
  refine pG_all (C := fun P : (Nat → Int32 → Int32 → pMem → pT Int32) => C_11 p1 P) (T := fun P => P y2 x3 x4 M) eI_inj (fun _ _ _ _ _ _ => True) ?_ (fun P hP => (K_11 hS P hP f) _ _ _ hy2 _ H)
  exact (fun _ _ _ _ _ _ _ => trivial)
theorem D_11_ok {X : aX} {F d : Nat} {K : Nat → aK} (hS : pS K) {p1 : Int32} {M : pMem} {out : Option Value × aH} (H : aM X F d 11 [.ref 0, .int p1] (pH K M) = some out) : pG eI K out (D_11 p1 M) := by
  obtain ⟨d', g0, _, H⟩ := pEnt (n := 5) (ls := [.ref 0, .int p1, aD, aD, aD]) (mcb_11 rfl) (by decide +kernel) rfl H
  unfold D_11
  replace H := pRun (ls' := [.ref 0, .int p1, aD, aD, aD]) (st' := [.int p1]) 1 rfl H
  obtain ⟨rv, h1, hc, H⟩ := pCalT 33 1 (as := [.int p1]) (rest := []) rfl (by decide) (by decide +kernel) rfl rfl H
  replace H := pUseF (f_33_ok hS hc) H
  rcases pIf0 (n1 := 2) rfl (mcb_11 rfl) (mcb_11 rfl) H with ⟨g1, g0, _, H⟩ | ⟨g1, g0, _, H⟩
  · refine pG_pos (c := ¬ (f_33 p1) = 0) g1 ?_
    replace H := pRun (ls' := [.ref 0, .int p1, aD, aD, aD]) (st' := [.ref 0]) 1 rfl H
    replace H := pGetR (r := 18) (pRf hS (by decide +kernel)) rfl H
    replace H := pGetR (r := 25) (pRf hS (by decide +kernel)) rfl H
    replace H := pRun (ls' := [.ref 0, .int p1, aD, aD, aD]) (st' := [.int p1, .ref 25]) 1 rfl H
    obtain ⟨g2, H⟩ := pAld (n := 4) (r := 37 + 11 * ix p1) (pArL hS (show pAr 25 4 37 11 3 = true by decide +kernel)) (fun h => pArR hS (show pAr 25 4 37 11 3 = true by decide +kernel) h) H
    refine pG_gd g2 ?_
    replace H := pRun (ls' := [.ref 0, .int p1, .ref (37 + 11 * ix p1), .int (kI 0), .int (kI 0)]) (st' := []) 5 rfl H
    obtain ⟨g0, _, H⟩ := pFall (mcb_11 rfl) H
    exact L_11_3_ok hS (pArK (show pAr 25 4 37 11 3 = true by decide +kernel) (by decide) g2) H
  · refine pG_neg (c := ¬ (f_33 p1) = 0) g1 ?_
    replace H := pRun (ls' := [.ref 0, .int p1, aD, aD, aD]) (st' := [.int (kI (-1))]) 1 rfl H
    exact pG_ret (pRetI H)
def l_11 : List (Nat × Nat) := [(19, 6), (19, 7), (19, 8), (19, 9), (19, 10), (19, 11), (23, 999), (22, 999), (19, 2), (19, 4), (19, 5), (19, 3), (26, 999)]
theorem FC_11 {p1 : Int32} : C_11 p1 (fun _ _ _ M _ N => pFr (l_11) M N) := fun y2 x3 x4 M => show pTf (l_11) M (S_11_3 p1 _ y2 x3 x4 M) from (tf_if (tf_ret pFr_refl) (tf_if (tf_ret pFr_refl) (tf_gd fun g3 => (tf_gd fun g4 => (tf_gd fun g5 => (tf_call pFr_refl (fun _ _ h => F_30 h) [0, 1, 2, 3, 4, 5, 6, 7, 8, 9, 10, 11, 12] rfl fun _ M1 f1 => (tf_jump f1)))))))
theorem F_11 {p1 : Int32} {M : pMem} {v : Int32} {N : pMem} (h : D_11 p1 M v N) : pFr (l_11) M N :=
  (show pTf (l_11) M (D_11 p1 M) from (tf_if (tf_gd fun g2 => (tf_jumpL (fun _ _ _ M _ N => pFr (l_11) M N) (FC_11) rfl pFr_refl)) (tf_ret pFr_refl))) v N h
/-- TwoCamps.of(II)I -/
def D_12 (p1 : Int32) (p2 : Int32) (M : pMem) : pT Int32 := tIf (¬ (f_222 19 p1 M) = 0) (tIf (p2 < (kI 100)) (tIf (p2 = kI 0) (tRet (f_225 19 p1 M) M) <| tIf (p2 = kI 1) (tGd (pIn p1 24) <| tRet (M 20 (ix p1)) M) <| tIf (p2 = kI 2) (tIf ((f_37 (M 19 2) p1) = 0) (tRet (kI 0) M) (tRet (kI 1) M)) <| tIf (p2 = kI 3) (tCall (D_31 p1 p2 M) fun v1 M1 => tRet v1 M1) <| tIf (p2 = kI 4) (tCall (D_31 p1 p2 M) fun v1 M1 => tRet v1 M1) <| tIf (p2 = kI 5) (tCall (D_31 p1 p2 M) fun v1 M1 => tRet v1 M1) <| tIf (p2 = kI 6) (tCall (D_31 p1 p2 M) fun v1 M1 => tRet v1 M1) <| tIf (p2 = kI 7) (tIf ((f_37 (M 19 3) p1) = 0) (tRet (kI 0) M) (tRet (kI 1) M)) <| tIf (p2 = kI 8) (tCall (D_31 p1 p2 M) fun v1 M1 => tRet v1 M1) <| tIf (p2 = kI 9) (tCall (D_231 19 (f_226 19 (f_225 19 p1 M) M) ((kI 1) <<< (p1 &&& 31)) M) fun v1 M1 => tRet v1 M1) <| tIf (p2 = kI 10) (tCall (D_231 19 (f_226 19 ((kI 1) - (f_225 19 p1 M)) M) ((kI 1) <<< (p1 &&& 31)) M) fun v1 M1 => tRet v1 M1) <| tIf (p2 = kI 11) (tCall (D_231 19 ((kI 1) <<< (p1 &&& 31)) (f_226 19 (f_225 19 p1 M) M) M) fun v1 M1 => tRet v1 M1) <| tRet (kI (-100)) M) (tIf ((f_223 19 p1 (p2 - (kI 100)) M) = 0) (tRet (kI (-100)) M) (tGd (pIn ((p1 * (kI 24)) + (p2 - (kI 100))) 576) <| tRet (M 22 (ix ((p1 * (kI 24)) + (p2 - (kI 100))))) M))) (tRet (kI (-100)) M)
theorem D_12_ok {X : aX} {F d : Nat} {K : Nat → aK} (hS : pS K) {p1 : Int32} {p2 : Int32} {M : pMem} {out : Option Value × aH} (H : aM X F d 12 [.ref 0, .int p1, .int p2] (pH K M) = some out) : pG eI K out (D_12 p1 p2 M) := by
  obtain ⟨d', g0, _, H⟩ := pEnt (n := 5) (ls := [.ref 0, .int p1, .int p2, aD, aD]) (mcb_12 rfl) (by decide +kernel) rfl H
  unfold D_12
  replace H := pRun (ls' := [.ref 0, .int p1, .int p2, aD, aD]) (st' := [.ref 0]) 1 rfl H
  replace H := pGetR (r := 18) (pRf hS (by decide +kernel)) rfl H
  replace H := pGetR (r := 19) (pRf hS (by decide +kernel)) rfl H
  replace H := pRun (ls' := [.ref 0, .int p1, .int p2, .ref 19, aD]) (st' := [.int p1, .ref 19]) 3 rfl H
  obtain ⟨rv, h1, hc, H⟩ := pCalV 222 1 19 (as := [.int p1]) (rest := []) rfl (by decide) (by decide +kernel) rfl rfl H
  replace H := pUseF (f_222_ok hS (show pK 10 19 = true by decide +kernel) hc) H
  rcases pIf0 (n1 := 2) rfl (mcb_12 rfl) (mcb_12 rfl) H with ⟨g1, g0, _, H⟩ | ⟨g1, g0, _, H⟩
  · refine pG_pos (c := ¬ (f_222 19 p1 M) = 0) g1 ?_
    replace H := pRun (ls' := [.ref 0, .int p1, .int p2, .ref 19, aD]) (st' := [.int (kI 100), .int p2]) 2 rfl H
    rcases pIfc (n1 := 7) rfl (mcb_12 rfl) (mcb_12 rfl) H with ⟨g2, g0, _, H⟩ | ⟨g2, g0, _, H⟩
    · refine pG_pos (c := p2 < (kI 100)) g2 ?_
      replace H := pRun (ls' := [.ref 0, .int p1, .int p2, .ref 19, aD]) (st' := [.int p1, .ref 19]) 2 rfl H
      obtain ⟨rv, h1, hc, H⟩ := pCalV 225 1 19 (as := [.int p1]) (rest := []) rfl (by decide) (by decide +kernel) rfl rfl H
      replace H := pUseF (f_225_ok hS (show pK 10 19 = true by decide +kernel) hc) H
      replace H := pRun (ls' := [.ref 0, .int p1, .int p2, .ref 19, .int (f_225 19 p1 M)]) (st' := [.int p2]) 2 rfl H
      by_cases g3 : p2 = kI 0
      · refine pG_pos g3 ?_
        obtain ⟨g0, _, H⟩ := pTsC g3 (by decide) (n1 := 8) rfl (mcb_12 rfl) H
        replace H := pRun (ls' := [.ref 0, .int p1, .int p2, .ref 19, .int (f_225 19 p1 M)]) (st' := [.int (f_225 19 p1 M)]) 1 rfl H
        exact pG_ret (pRetI H)
      refine pG_neg g3 ?_
      by_cases g4 : p2 = kI 1
      · refine pG_pos g4 ?_
        obtain ⟨g0, _, H⟩ := pTsC g4 (by decide) (n1 := 9) rfl (mcb_12 rfl) H
        replace H := pRun (ls' := [.ref 0, .int p1, .int p2, .ref 19, .int (f_225 19 p1 M)]) (st' := [.ref 19]) 1 rfl H
        replace H := pGetR (r := 20) (pRf hS (by decide +kernel)) rfl H
        replace H := pRun (ls' := [.ref 0, .int p1, .int p2, .ref 19, .int (f_225 19 p1 M)]) (st' := [.int p1, .ref 20]) 1 rfl H
        obtain ⟨g5, H⟩ := pIld (n := 24) (pLt (show pCa 20 24 = true by decide +kernel)) (pLn hS (show pCa 20 24 = true by decide +kernel)) H
        refine pG_gd g5 ?_
        exact pG_ret (pRetI H)
      refine pG_neg g4 ?_
      by_cases g5 : p2 = kI 2
      · refine pG_pos g5 ?_
        obtain ⟨g0, _, H⟩ := pTsC g5 (by decide) (n1 := 10) rfl (mcb_12 rfl) H
        replace H := pRun (ls' := [.ref 0, .int p1, .int p2, .ref 19, .int (f_225 19 p1 M)]) (st' := [.ref 19]) 1 rfl H
        replace H := pGetN (v := M 19 2) rfl (by decide) H
        replace H := pRun (ls' := [.ref 0, .int p1, .int p2, .ref 19, .int (f_225 19 p1 M)]) (st' := [.int p1, .int (M 19 2)]) 1 rfl H
        obtain ⟨rv, h1, hc, H⟩ := pCalT 37 2 (as := [.int (M 19 2), .int p1]) (rest := []) rfl (by decide) (by decide +kernel) rfl rfl H
        replace H := pUseF (f_37_ok hS hc) H
        rcases pIf0 (n1 := 12) rfl (mcb_12 rfl) (mcb_12 rfl) H with ⟨g6, g0, _, H⟩ | ⟨g6, g0, _, H⟩
        · refine pG_pos (c := (f_37 (M 19 2) p1) = 0) g6 ?_
          replace H := pRun (ls' := [.ref 0, .int p1, .int p2, .ref 19, .int (f_225 19 p1 M)]) (st' := [.int (kI 0)]) 1 rfl H
          obtain ⟨g0, _, H⟩ := pFall (mcb_12 rfl) H
          exact pG_ret (pRetI H)
        · refine pG_neg (c := (f_37 (M 19 2) p1) = 0) g6 ?_
          replace H := pRun (ls' := [.ref 0, .int p1, .int p2, .ref 19, .int (f_225 19 p1 M)]) (st' := [.int (kI 1)]) 1 rfl H
          obtain ⟨g0, _, H⟩ := pGo (n1 := 13) rfl (mcb_12 rfl) H
          exact pG_ret (pRetI H)
      refine pG_neg g5 ?_
      by_cases g6 : p2 = kI 3
      · refine pG_pos g6 ?_
        obtain ⟨g0, _, H⟩ := pTsC g6 (by decide) (n1 := 14) rfl (mcb_12 rfl) H
        replace H := pRun (ls' := [.ref 0, .int p1, .int p2, .ref 19, .int (f_225 19 p1 M)]) (st' := [.int p2, .int p1, .ref 0]) 3 rfl H
        obtain ⟨rv, h1, hc, H⟩ := pCalV 31 2 0 (as := [.int p1, .int p2]) (rest := []) rfl (by decide) (by decide +kernel) rfl rfl H
        obtain ⟨v1, M1, hD, H⟩ := pUseI (D_31_ok hS hc) H
        refine pG_call (x := v1) (M1 := M1) hD ?_
        exact pG_ret (pRetI H)
      refine pG_neg g6 ?_
      by_cases g7 : p2 = kI 4
      · refine pG_pos g7 ?_
        obtain ⟨g0, _, H⟩ := pTsC g7 (by decide) (n1 := 14) rfl (mcb_12 rfl) H
        replace H := pRun (ls' := [.ref 0, .int p1, .int p2, .ref 19, .int (f_225 19 p1 M)]) (st' := [.int p2, .int p1, .ref 0]) 3 rfl H
        obtain ⟨rv, h1, hc, H⟩ := pCalV 31 2 0 (as := [.int p1, .int p2]) (rest := []) rfl (by decide) (by decide +kernel) rfl rfl H
        obtain ⟨v1, M1, hD, H⟩ := pUseI (D_31_ok hS hc) H
        refine pG_call (x := v1) (M1 := M1) hD ?_
        exact pG_ret (pRetI H)
      refine pG_neg g7 ?_
      by_cases g8 : p2 = kI 5
      · refine pG_pos g8 ?_
        obtain ⟨g0, _, H⟩ := pTsC g8 (by decide) (n1 := 14) rfl (mcb_12 rfl) H
        replace H := pRun (ls' := [.ref 0, .int p1, .int p2, .ref 19, .int (f_225 19 p1 M)]) (st' := [.int p2, .int p1, .ref 0]) 3 rfl H
        obtain ⟨rv, h1, hc, H⟩ := pCalV 31 2 0 (as := [.int p1, .int p2]) (rest := []) rfl (by decide) (by decide +kernel) rfl rfl H
        obtain ⟨v1, M1, hD, H⟩ := pUseI (D_31_ok hS hc) H
        refine pG_call (x := v1) (M1 := M1) hD ?_
        exact pG_ret (pRetI H)
      refine pG_neg g8 ?_
      by_cases g9 : p2 = kI 6
      · refine pG_pos g9 ?_
        obtain ⟨g0, _, H⟩ := pTsC g9 (by decide) (n1 := 14) rfl (mcb_12 rfl) H
        replace H := pRun (ls' := [.ref 0, .int p1, .int p2, .ref 19, .int (f_225 19 p1 M)]) (st' := [.int p2, .int p1, .ref 0]) 3 rfl H
        obtain ⟨rv, h1, hc, H⟩ := pCalV 31 2 0 (as := [.int p1, .int p2]) (rest := []) rfl (by decide) (by decide +kernel) rfl rfl H
        obtain ⟨v1, M1, hD, H⟩ := pUseI (D_31_ok hS hc) H
        refine pG_call (x := v1) (M1 := M1) hD ?_
        exact pG_ret (pRetI H)
      refine pG_neg g9 ?_
      by_cases g10 : p2 = kI 7
      · refine pG_pos g10 ?_
        obtain ⟨g0, _, H⟩ := pTsC g10 (by decide) (n1 := 15) rfl (mcb_12 rfl) H
        replace H := pRun (ls' := [.ref 0, .int p1, .int p2, .ref 19, .int (f_225 19 p1 M)]) (st' := [.ref 19]) 1 rfl H
        replace H := pGetN (v := M 19 3) rfl (by decide) H
        replace H := pRun (ls' := [.ref 0, .int p1, .int p2, .ref 19, .int (f_225 19 p1 M)]) (st' := [.int p1, .int (M 19 3)]) 1 rfl H
        obtain ⟨rv, h1, hc, H⟩ := pCalT 37 2 (as := [.int (M 19 3), .int p1]) (rest := []) rfl (by decide) (by decide +kernel) rfl rfl H
        replace H := pUseF (f_37_ok hS hc) H
        rcases pIf0 (n1 := 17) rfl (mcb_12 rfl) (mcb_12 rfl) H with ⟨g11, g0, _, H⟩ | ⟨g11, g0, _, H⟩
        · refine pG_pos (c := (f_37 (M 19 3) p1) = 0) g11 ?_
          replace H := pRun (ls' := [.ref 0, .int p1, .int p2, .ref 19, .int (f_225 19 p1 M)]) (st' := [.int (kI 0)]) 1 rfl H
          obtain ⟨g0, _, H⟩ := pFall (mcb_12 rfl) H
          exact pG_ret (pRetI H)
        · refine pG_neg (c := (f_37 (M 19 3) p1) = 0) g11 ?_
          replace H := pRun (ls' := [.ref 0, .int p1, .int p2, .ref 19, .int (f_225 19 p1 M)]) (st' := [.int (kI 1)]) 1 rfl H
          obtain ⟨g0, _, H⟩ := pGo (n1 := 18) rfl (mcb_12 rfl) H
          exact pG_ret (pRetI H)
      refine pG_neg g10 ?_
      by_cases g11 : p2 = kI 8
      · refine pG_pos g11 ?_
        obtain ⟨g0, _, H⟩ := pTsC g11 (by decide) (n1 := 14) rfl (mcb_12 rfl) H
        replace H := pRun (ls' := [.ref 0, .int p1, .int p2, .ref 19, .int (f_225 19 p1 M)]) (st' := [.int p2, .int p1, .ref 0]) 3 rfl H
        obtain ⟨rv, h1, hc, H⟩ := pCalV 31 2 0 (as := [.int p1, .int p2]) (rest := []) rfl (by decide) (by decide +kernel) rfl rfl H
        obtain ⟨v1, M1, hD, H⟩ := pUseI (D_31_ok hS hc) H
        refine pG_call (x := v1) (M1 := M1) hD ?_
        exact pG_ret (pRetI H)
      refine pG_neg g11 ?_
      by_cases g12 : p2 = kI 9
      · refine pG_pos g12 ?_
        obtain ⟨g0, _, H⟩ := pTsC g12 (by decide) (n1 := 19) rfl (mcb_12 rfl) H
        replace H := pRun (ls' := [.ref 0, .int p1, .int p2, .ref 19, .int (f_225 19 p1 M)]) (st' := [.int (f_225 19 p1 M), .ref 19, .ref 19]) 3 rfl H
        obtain ⟨rv, h1, hc, H⟩ := pCalV 226 1 19 (as := [.int (f_225 19 p1 M)]) (rest := [.ref 19]) rfl (by decide) (by decide +kernel) rfl rfl H
        replace H := pUseF (f_226_ok hS (show pK 10 19 = true by decide +kernel) hc) H
        replace H := pRun (ls' := [.ref 0, .int p1, .int p2, .ref 19, .int (f_225 19 p1 M)]) (st' := [.int ((kI 1) <<< (p1 &&& 31)), .int (f_226 19 (f_225 19 p1 M) M), .ref 19]) 3 rfl H
        obtain ⟨rv, h1, hc, H⟩ := pCalV 231 2 19 (as := [.int (f_226 19 (f_225 19 p1 M) M), .int ((kI 1) <<< (p1 &&& 31))]) (rest := []) rfl (by decide) (by decide +kernel) rfl rfl H
        obtain ⟨v1, M1, hD, H⟩ := pUseI (D_231_ok hS (show pK 10 19 = true by decide +kernel) hc) H
        refine pG_call (x := v1) (M1 := M1) hD ?_
        exact pG_ret (pRetI H)
      refine pG_neg g12 ?_
      by_cases g13 : p2 = kI 10
      · refine pG_pos g13 ?_
        obtain ⟨g0, _, H⟩ := pTsC g13 (by decide) (n1 := 20) rfl (mcb_12 rfl) H
        replace H := pRun (ls' := [.ref 0, .int p1, .int p2, .ref 19, .int (f_225 19 p1 M)]) (st' := [.int ((kI 1) - (f_225 19 p1 M)), .ref 19, .ref 19]) 5 rfl H
        obtain ⟨rv, h1, hc, H⟩ := pCalV 226 1 19 (as := [.int ((kI 1) - (f_225 19 p1 M))]) (rest := [.ref 19]) rfl (by decide) (by decide +kernel) rfl rfl H
        replace H := pUseF (f_226_ok hS (show pK 10 19 = true by decide +kernel) hc) H
        replace H := pRun (ls' := [.ref 0, .int p1, .int p2, .ref 19, .int (f_225 19 p1 M)]) (st' := [.int ((kI 1) <<< (p1 &&& 31)), .int (f_226 19 ((kI 1) - (f_225 19 p1 M)) M), .ref 19]) 3 rfl H
        obtain ⟨rv, h1, hc, H⟩ := pCalV 231 2 19 (as := [.int (f_226 19 ((kI 1) - (f_225 19 p1 M)) M), .int ((kI 1) <<< (p1 &&& 31))]) (rest := []) rfl (by decide) (by decide +kernel) rfl rfl H
        obtain ⟨v1, M1, hD, H⟩ := pUseI (D_231_ok hS (show pK 10 19 = true by decide +kernel) hc) H
        refine pG_call (x := v1) (M1 := M1) hD ?_
        exact pG_ret (pRetI H)
      refine pG_neg g13 ?_
      by_cases g14 : p2 = kI 11
      · refine pG_pos g14 ?_
        obtain ⟨g0, _, H⟩ := pTsC g14 (by decide) (n1 := 21) rfl (mcb_12 rfl) H
        replace H := pRun (ls' := [.ref 0, .int p1, .int p2, .ref 19, .int (f_225 19 p1 M)]) (st' := [.int (f_225 19 p1 M), .ref 19, .int ((kI 1) <<< (p1 &&& 31)), .ref 19]) 6 rfl H
        obtain ⟨rv, h1, hc, H⟩ := pCalV 226 1 19 (as := [.int (f_225 19 p1 M)]) (rest := [.int ((kI 1) <<< (p1 &&& 31)), .ref 19]) rfl (by decide) (by decide +kernel) rfl rfl H
        replace H := pUseF (f_226_ok hS (show pK 10 19 = true by decide +kernel) hc) H
        obtain ⟨rv, h1, hc, H⟩ := pCalV 231 2 19 (as := [.int ((kI 1) <<< (p1 &&& 31)), .int (f_226 19 (f_225 19 p1 M) M)]) (rest := []) rfl (by decide) (by decide +kernel) rfl rfl H
        obtain ⟨v1, M1, hD, H⟩ := pUseI (D_231_ok hS (show pK 10 19 = true by decide +kernel) hc) H
        refine pG_call (x := v1) (M1 := M1) hD ?_
        exact pG_ret (pRetI H)
      refine pG_neg g14 ?_
      obtain ⟨g0, _, H⟩ := pTsD (n1 := 22) (fun v h1 h2 => by
    have hv : v = 0 ∨ v = 1 ∨ v = 2 ∨ v = 3 ∨ v = 4 ∨ v = 5 ∨ v = 6 ∨ v = 7 ∨ v = 8 ∨ v = 9 ∨ v = 10 ∨ v = 11 := by omega
    rcases hv with rfl | rfl | rfl | rfl | rfl | rfl | rfl | rfl | rfl | rfl | rfl | rfl
    · exact g3
    · exact g4
    · exact g5
    · exact g6
    · exact g7
    · exact g8
    · exact g9
    · exact g10
    · exact g11
    · exact g12
    · exact g13
    · exact g14) rfl (mcb_12 rfl) H
      replace H := pRun (ls' := [.ref 0, .int p1, .int p2, .ref 19, .int (f_225 19 p1 M)]) (st' := [.int (kI (-100))]) 1 rfl H
      exact pG_ret (pRetI H)
    · refine pG_neg (c := p2 < (kI 100)) g2 ?_
      replace H := pRun (ls' := [.ref 0, .int p1, .int p2, .ref 19, .int (p2 - (kI 100))]) (st' := [.int (p2 - (kI 100)), .int p1, .ref 19]) 7 rfl H
      obtain ⟨rv, h1, hc, H⟩ := pCalV 223 2 19 (as := [.int p1, .int (p2 - (kI 100))]) (rest := []) rfl (by decide) (by decide +kernel) rfl rfl H
      replace H := pUseF (f_223_ok hS (show pK 10 19 = true by decide +kernel) hc) H
      rcases pIf0 (n1 := 5) rfl (mcb_12 rfl) (mcb_12 rfl) H with ⟨g3, g0, _, H⟩ | ⟨g3, g0, _, H⟩
      · refine pG_pos (c := (f_223 19 p1 (p2 - (kI 100)) M) = 0) g3 ?_
        replace H := pRun (ls' := [.ref 0, .int p1, .int p2, .ref 19, .int (p2 - (kI 100))]) (st' := [.int (kI (-100))]) 1 rfl H
        obtain ⟨g0, _, H⟩ := pFall (mcb_12 rfl) H
        exact pG_ret (pRetI H)
      · refine pG_neg (c := (f_223 19 p1 (p2 - (kI 100)) M) = 0) g3 ?_
        replace H := pRun (ls' := [.ref 0, .int p1, .int p2, .ref 19, .int (p2 - (kI 100))]) (st' := [.ref 19]) 1 rfl H
        replace H := pGetR (r := 22) (pRf hS (by decide +kernel)) rfl H
        replace H := pRun (ls' := [.ref 0, .int p1, .int p2, .ref 19, .int (p2 - (kI 100))]) (st' := [.int ((p1 * (kI 24)) + (p2 - (kI 100))), .ref 22]) 5 rfl H
        obtain ⟨g4, H⟩ := pIld (n := 576) (pLt (show pCa 22 576 = true by decide +kernel)) (pLn hS (show pCa 22 576 = true by decide +kernel)) H
        refine pG_gd g4 ?_
        obtain ⟨g0, _, H⟩ := pGo (n1 := 6) rfl (mcb_12 rfl) H
        exact pG_ret (pRetI H)
  · refine pG_neg (c := ¬ (f_222 19 p1 M) = 0) g1 ?_
    replace H := pRun (ls' := [.ref 0, .int p1, .int p2, .ref 19, aD]) (st' := [.int (kI (-100))]) 1 rfl H
    exact pG_ret (pRetI H)
def l_12 : List (Nat × Nat) := []
theorem F_12 {p1 : Int32} {p2 : Int32} {M : pMem} {v : Int32} {N : pMem} (h : D_12 p1 p2 M v N) : pFr (l_12) M N :=
  (show pTf (l_12) M (D_12 p1 p2 M) from (tf_if (tf_if (tf_if (tf_ret pFr_refl) (tf_if (tf_gd fun g5 => (tf_ret pFr_refl)) (tf_if (tf_if (tf_ret pFr_refl) (tf_ret pFr_refl)) (tf_if (tf_call pFr_refl (fun _ _ h => F_31 h) [] rfl fun _ M1 f1 => (tf_ret f1)) (tf_if (tf_call pFr_refl (fun _ _ h => F_31 h) [] rfl fun _ M1 f1 => (tf_ret f1)) (tf_if (tf_call pFr_refl (fun _ _ h => F_31 h) [] rfl fun _ M1 f1 => (tf_ret f1)) (tf_if (tf_call pFr_refl (fun _ _ h => F_31 h) [] rfl fun _ M1 f1 => (tf_ret f1)) (tf_if (tf_if (tf_ret pFr_refl) (tf_ret pFr_refl)) (tf_if (tf_call pFr_refl (fun _ _ h => F_31 h) [] rfl fun _ M1 f1 => (tf_ret f1)) (tf_if (tf_call pFr_refl (fun _ _ h => F_231 (show pK 10 19 = true by decide +kernel) h) [] rfl fun _ M1 f1 => (tf_ret f1)) (tf_if (tf_call pFr_refl (fun _ _ h => F_231 (show pK 10 19 = true by decide +kernel) h) [] rfl fun _ M1 f1 => (tf_ret f1)) (tf_if (tf_call pFr_refl (fun _ _ h => F_231 (show pK 10 19 = true by decide +kernel) h) [] rfl fun _ M1 f1 => (tf_ret f1)) (tf_ret pFr_refl))))))))))))) (tf_if (tf_ret pFr_refl) (tf_gd fun g4 => (tf_ret pFr_refl)))) (tf_ret pFr_refl))) v N h
/-- TwoCamps.lot(II)I -/
def D_13 (p1 : Int32) (p2 : Int32) (M : pMem) : pT Int32 := tIf (¬ (f_32 p1) = 0) (tIf (p2 = kI 0) (tRet (f_227 19 p1 M) M) <| tIf (p2 = kI 1) (tCall (D_228 19 p1 M) fun v1 M1 => tRet v1 M1) <| tIf (p2 = kI 2) (tCall (D_229 19 p1 M) fun v1 M1 => tRet v1 M1) <| tIf (p2 = kI 3) (tGd (pIn ((p2 * (kI 2)) + p1) 18) <| tRet (M 23 (ix ((p2 * (kI 2)) + p1))) M) <| tIf (p2 = kI 4) (tGd (pIn ((p2 * (kI 2)) + p1) 18) <| tRet (M 23 (ix ((p2 * (kI 2)) + p1))) M) <| tIf (p2 = kI 5) (tGd (pIn ((p2 * (kI 2)) + p1) 18) <| tRet (M 23 (ix ((p2 * (kI 2)) + p1))) M) <| tIf (p2 = kI 6) (tGd (pIn ((p2 * (kI 2)) + p1) 18) <| tRet (M 23 (ix ((p2 * (kI 2)) + p1))) M) <| tIf (p2 = kI 7) (tCall (D_217 M) fun v1 M1 => tCall (D_188 19 v1 p1 M1) fun v2 M2 => tRet v2 M2) <| tIf (p2 = kI 8) (tGd (pIn ((p2 * (kI 2)) + p1) 18) <| tRet (M 23 (ix ((p2 * (kI 2)) + p1))) M) <| tRet (kI (-100)) M) (tRet (kI (-100)) M)
theorem D_13_ok {X : aX} {F d : Nat} {K : Nat → aK} (hS : pS K) {p1 : Int32} {p2 : Int32} {M : pMem} {out : Option Value × aH} (H : aM X F d 13 [.ref 0, .int p1, .int p2] (pH K M) = some out) : pG eI K out (D_13 p1 p2 M) := by
  obtain ⟨d', g0, _, H⟩ := pEnt (n := 3) (ls := [.ref 0, .int p1, .int p2]) (mcb_13 rfl) (by decide +kernel) rfl H
  unfold D_13
  replace H := pRun (ls' := [.ref 0, .int p1, .int p2]) (st' := [.int p1]) 1 rfl H
  obtain ⟨rv, h1, hc, H⟩ := pCalT 32 1 (as := [.int p1]) (rest := []) rfl (by decide) (by decide +kernel) rfl rfl H
  replace H := pUseF (f_32_ok hS hc) H
  rcases pIf0 (n1 := 2) rfl (mcb_13 rfl) (mcb_13 rfl) H with ⟨g1, g0, _, H⟩ | ⟨g1, g0, _, H⟩
  · refine pG_pos (c := ¬ (f_32 p1) = 0) g1 ?_
    replace H := pRun (ls' := [.ref 0, .int p1, .int p2]) (st' := [.int p2]) 1 rfl H
    by_cases g2 : p2 = kI 0
    · refine pG_pos g2 ?_
      obtain ⟨g0, _, H⟩ := pTsC g2 (by decide) (n1 := 3) rfl (mcb_13 rfl) H
      replace H := pRun (ls' := [.ref 0, .int p1, .int p2]) (st' := [.ref 0]) 1 rfl H
      replace H := pGetR (r := 18) (pRf hS (by decide +kernel)) rfl H
      replace H := pGetR (r := 19) (pRf hS (by decide +kernel)) rfl H
      replace H := pRun (ls' := [.ref 0, .int p1, .int p2]) (st' := [.int p1, .ref 19]) 1 rfl H
      obtain ⟨rv, h1, hc, H⟩ := pCalV 227 1 19 (as := [.int p1]) (rest := []) rfl (by decide) (by decide +kernel) rfl rfl H
      replace H := pUseF (f_227_ok hS (show pK 10 19 = true by decide +kernel) hc) H
      exact pG_ret (pRetI H)
    refine pG_neg g2 ?_
    by_cases g3 : p2 = kI 1
    · refine pG_pos g3 ?_
      obtain ⟨g0, _, H⟩ := pTsC g3 (by decide) (n1 := 4) rfl (mcb_13 rfl) H
      replace H := pRun (ls' := [.ref 0, .int p1, .int p2]) (st' := [.ref 0]) 1 rfl H
      replace H := pGetR (r := 18) (pRf hS (by decide +kernel)) rfl H
      replace H := pGetR (r := 19) (pRf hS (by decide +kernel)) rfl H
      replace H := pRun (ls' := [.ref 0, .int p1, .int p2]) (st' := [.int p1, .ref 19]) 1 rfl H
      obtain ⟨rv, h1, hc, H⟩ := pCalV 228 1 19 (as := [.int p1]) (rest := []) rfl (by decide) (by decide +kernel) rfl rfl H
      obtain ⟨v1, M1, hD, H⟩ := pUseI (D_228_ok hS (show pK 10 19 = true by decide +kernel) hc) H
      refine pG_call (x := v1) (M1 := M1) hD ?_
      exact pG_ret (pRetI H)
    refine pG_neg g3 ?_
    by_cases g4 : p2 = kI 2
    · refine pG_pos g4 ?_
      obtain ⟨g0, _, H⟩ := pTsC g4 (by decide) (n1 := 5) rfl (mcb_13 rfl) H
      replace H := pRun (ls' := [.ref 0, .int p1, .int p2]) (st' := [.ref 0]) 1 rfl H
      replace H := pGetR (r := 18) (pRf hS (by decide +kernel)) rfl H
      replace H := pGetR (r := 19) (pRf hS (by decide +kernel)) rfl H
      replace H := pRun (ls' := [.ref 0, .int p1, .int p2]) (st' := [.int p1, .ref 19]) 1 rfl H
      obtain ⟨rv, h1, hc, H⟩ := pCalV 229 1 19 (as := [.int p1]) (rest := []) rfl (by decide) (by decide +kernel) rfl rfl H
      obtain ⟨v1, M1, hD, H⟩ := pUseI (D_229_ok hS (show pK 10 19 = true by decide +kernel) hc) H
      refine pG_call (x := v1) (M1 := M1) hD ?_
      exact pG_ret (pRetI H)
    refine pG_neg g4 ?_
    by_cases g5 : p2 = kI 3
    · refine pG_pos g5 ?_
      obtain ⟨g0, _, H⟩ := pTsC g5 (by decide) (n1 := 6) rfl (mcb_13 rfl) H
      replace H := pRun (ls' := [.ref 0, .int p1, .int p2]) (st' := [.ref 0]) 1 rfl H
      replace H := pGetR (r := 18) (pRf hS (by decide +kernel)) rfl H
      replace H := pGetR (r := 19) (pRf hS (by decide +kernel)) rfl H
      replace H := pGetR (r := 23) (pRf hS (by decide +kernel)) rfl H
      replace H := pRun (ls' := [.ref 0, .int p1, .int p2]) (st' := [.int ((p2 * (kI 2)) + p1), .ref 23]) 5 rfl H
      obtain ⟨g6, H⟩ := pIld (n := 18) (pLt (show pCa 23 18 = true by decide +kernel)) (pLn hS (show pCa 23 18 = true by decide +kernel)) H
      refine pG_gd g6 ?_
      exact pG_ret (pRetI H)
    refine pG_neg g5 ?_
    by_cases g6 : p2 = kI 4
    · refine pG_pos g6 ?_
      obtain ⟨g0, _, H⟩ := pTsC g6 (by decide) (n1 := 6) rfl (mcb_13 rfl) H
      replace H := pRun (ls' := [.ref 0, .int p1, .int p2]) (st' := [.ref 0]) 1 rfl H
      replace H := pGetR (r := 18) (pRf hS (by decide +kernel)) rfl H
      replace H := pGetR (r := 19) (pRf hS (by decide +kernel)) rfl H
      replace H := pGetR (r := 23) (pRf hS (by decide +kernel)) rfl H
      replace H := pRun (ls' := [.ref 0, .int p1, .int p2]) (st' := [.int ((p2 * (kI 2)) + p1), .ref 23]) 5 rfl H
      obtain ⟨g7, H⟩ := pIld (n := 18) (pLt (show pCa 23 18 = true by decide +kernel)) (pLn hS (show pCa 23 18 = true by decide +kernel)) H
      refine pG_gd g7 ?_
      exact pG_ret (pRetI H)
    refine pG_neg g6 ?_
    by_cases g7 : p2 = kI 5
    · refine pG_pos g7 ?_
      obtain ⟨g0, _, H⟩ := pTsC g7 (by decide) (n1 := 6) rfl (mcb_13 rfl) H
      replace H := pRun (ls' := [.ref 0, .int p1, .int p2]) (st' := [.ref 0]) 1 rfl H
      replace H := pGetR (r := 18) (pRf hS (by decide +kernel)) rfl H
      replace H := pGetR (r := 19) (pRf hS (by decide +kernel)) rfl H
      replace H := pGetR (r := 23) (pRf hS (by decide +kernel)) rfl H
      replace H := pRun (ls' := [.ref 0, .int p1, .int p2]) (st' := [.int ((p2 * (kI 2)) + p1), .ref 23]) 5 rfl H
      obtain ⟨g8, H⟩ := pIld (n := 18) (pLt (show pCa 23 18 = true by decide +kernel)) (pLn hS (show pCa 23 18 = true by decide +kernel)) H
      refine pG_gd g8 ?_
      exact pG_ret (pRetI H)
    refine pG_neg g7 ?_
    by_cases g8 : p2 = kI 6
    · refine pG_pos g8 ?_
      obtain ⟨g0, _, H⟩ := pTsC g8 (by decide) (n1 := 6) rfl (mcb_13 rfl) H
      replace H := pRun (ls' := [.ref 0, .int p1, .int p2]) (st' := [.ref 0]) 1 rfl H
      replace H := pGetR (r := 18) (pRf hS (by decide +kernel)) rfl H
      replace H := pGetR (r := 19) (pRf hS (by decide +kernel)) rfl H
      replace H := pGetR (r := 23) (pRf hS (by decide +kernel)) rfl H
      replace H := pRun (ls' := [.ref 0, .int p1, .int p2]) (st' := [.int ((p2 * (kI 2)) + p1), .ref 23]) 5 rfl H
      obtain ⟨g9, H⟩ := pIld (n := 18) (pLt (show pCa 23 18 = true by decide +kernel)) (pLn hS (show pCa 23 18 = true by decide +kernel)) H
      refine pG_gd g9 ?_
      exact pG_ret (pRetI H)
    refine pG_neg g8 ?_
    by_cases g9 : p2 = kI 7
    · refine pG_pos g9 ?_
      obtain ⟨g0, _, H⟩ := pTsC g9 (by decide) (n1 := 7) rfl (mcb_13 rfl) H
      replace H := pRun (ls' := [.ref 0, .int p1, .int p2]) (st' := [.ref 0]) 1 rfl H
      replace H := pGetR (r := 133) (pRf hS (by decide +kernel)) rfl H
      replace H := pRun (ls' := [.ref 0, .int p1, .int p2]) (st' := [.ref 0, .ref 133]) 1 rfl H
      replace H := pGetR (r := 18) (pRf hS (by decide +kernel)) rfl H
      replace H := pGetR (r := 19) (pRf hS (by decide +kernel)) rfl H
      replace H := pRun (ls' := [.ref 0, .int p1, .int p2]) (st' := [.ref 0, .ref 19, .ref 133]) 1 rfl H
      replace H := pGetR (r := 18) (pRf hS (by decide +kernel)) rfl H
      obtain ⟨rv, h1, hc, H⟩ := pCalV 217 0 18 (as := []) (rest := [.ref 19, .ref 133]) rfl (by decide) (by decide +kernel) rfl rfl H
      obtain ⟨v1, M1, hD, H⟩ := pUseR (D_217_ok hS hc) H
      have hv1 := D_217_k hD
      refine pG_call (x := v1) (M1 := M1) hD ?_
      replace H := pRun (ls' := [.ref 0, .int p1, .int p2]) (st' := [.int p1, .ref v1, .ref 19, .ref 133]) 1 rfl H
      obtain ⟨rv, h1, hc, H⟩ := pCalV 188 3 133 (as := [.ref 19, .ref v1, .int p1]) (rest := []) rfl (by decide) (by decide +kernel) rfl rfl H
      obtain ⟨v2, M2, hD, H⟩ := pUseI (D_188_ok hS (show pK 10 19 = true by decide +kernel) hv1 hc) H
      refine pG_call (x := v2) (M1 := M2) hD ?_
      exact pG_ret (pRetI H)
    refine pG_neg g9 ?_
    by_cases g10 : p2 = kI 8
    · refine pG_pos g10 ?_
      obtain ⟨g0, _, H⟩ := pTsC g10 (by decide) (n1 := 6) rfl (mcb_13 rfl) H
      replace H := pRun (ls' := [.ref 0, .int p1, .int p2]) (st' := [.ref 0]) 1 rfl H
      replace H := pGetR (r := 18) (pRf hS (by decide +kernel)) rfl H
      replace H := pGetR (r := 19) (pRf hS (by decide +kernel)) rfl H
      replace H := pGetR (r := 23) (pRf hS (by decide +kernel)) rfl H
      replace H := pRun (ls' := [.ref 0, .int p1, .int p2]) (st' := [.int ((p2 * (kI 2)) + p1), .ref 23]) 5 rfl H
      obtain ⟨g11, H⟩ := pIld (n := 18) (pLt (show pCa 23 18 = true by decide +kernel)) (pLn hS (show pCa 23 18 = true by decide +kernel)) H
      refine pG_gd g11 ?_
      exact pG_ret (pRetI H)
    refine pG_neg g10 ?_
    obtain ⟨g0, _, H⟩ := pTsD (n1 := 8) (fun v h1 h2 => by
    have hv : v = 0 ∨ v = 1 ∨ v = 2 ∨ v = 3 ∨ v = 4 ∨ v = 5 ∨ v = 6 ∨ v = 7 ∨ v = 8 := by omega
    rcases hv with rfl | rfl | rfl | rfl | rfl | rfl | rfl | rfl | rfl
    · exact g2
    · exact g3
    · exact g4
    · exact g5
    · exact g6
    · exact g7
    · exact g8
    · exact g9
    · exact g10) rfl (mcb_13 rfl) H
    replace H := pRun (ls' := [.ref 0, .int p1, .int p2]) (st' := [.int (kI (-100))]) 1 rfl H
    exact pG_ret (pRetI H)
  · refine pG_neg (c := ¬ (f_32 p1) = 0) g1 ?_
    replace H := pRun (ls' := [.ref 0, .int p1, .int p2]) (st' := [.int (kI (-100))]) 1 rfl H
    exact pG_ret (pRetI H)
def l_13 : List (Nat × Nat) := []
theorem F_13 {p1 : Int32} {p2 : Int32} {M : pMem} {v : Int32} {N : pMem} (h : D_13 p1 p2 M v N) : pFr (l_13) M N :=
  (show pTf (l_13) M (D_13 p1 p2 M) from (tf_if (tf_if (tf_ret pFr_refl) (tf_if (tf_call pFr_refl (fun _ _ h => F_228 (show pK 10 19 = true by decide +kernel) h) [] rfl fun _ M1 f1 => (tf_ret f1)) (tf_if (tf_call pFr_refl (fun _ _ h => F_229 (show pK 10 19 = true by decide +kernel) h) [] rfl fun _ M1 f1 => (tf_ret f1)) (tf_if (tf_gd fun g6 => (tf_ret pFr_refl)) (tf_if (tf_gd fun g7 => (tf_ret pFr_refl)) (tf_if (tf_gd fun g8 => (tf_ret pFr_refl)) (tf_if (tf_gd fun g9 => (tf_ret pFr_refl)) (tf_if (tf_callR pFr_refl (fun _ _ h => F_217 h) [] rfl fun v1 M1 d1 f1 => have hv1 := D_217_k d1; (tf_call f1 (fun _ _ h => F_188 (show pK 10 19 = true by decide +kernel) hv1 h) [] rfl fun _ M2 f2 => (tf_ret f2))) (tf_if (tf_gd fun g11 => (tf_ret pFr_refl)) (tf_ret pFr_refl)))))))))) (tf_ret pFr_refl))) v N h
/-- TwoCamps.kept(II)I -/
def D_14 (p1 : Int32) (p2 : Int32) (M : pMem) : pT Int32 := tIf (p1 < (kI 1)) (tRet (kI (-100)) M) (tIf ((M 19 4) < p1) (tRet (kI (-100)) M) (tIf ((kI 60) < p1) (tRet (kI (-100)) M) (tIf (p2 < 0) (tRet (kI (-100)) M) (tIf ((kI 8) ≤ p2) (tRet (kI (-100)) M) (tGd (pIn (((p1 - (kI 1)) * (kI 8)) + p2) 480) <| tRet (M 26 (ix (((p1 - (kI 1)) * (kI 8)) + p2))) M)))))
theorem D_14_ok {X : aX} {F d : Nat} {K : Nat → aK} (hS : pS K) {p1 : Int32} {p2 : Int32} {M : pMem} {out : Option Value × aH} (H : aM X F d 14 [.ref 0, .int p1, .int p2] (pH K M) = some out) : pG eI K out (D_14 p1 p2 M) := by
  obtain ⟨d', g0, _, H⟩ := pEnt (n := 4) (ls := [.ref 0, .int p1, .int p2, aD]) (mcb_14 rfl) (by decide +kernel) rfl H
  unfold D_14
  replace H := pRun (ls' := [.ref 0, .int p1, .int p2, aD]) (st' := [.int (kI 1), .int p1]) 2 rfl H
  rcases pIfc (n1 := 6) rfl (mcb_14 rfl) (mcb_14 rfl) H with ⟨g1, g0, _, H⟩ | ⟨g1, g0, _, H⟩
  · refine pG_pos (c := p1 < (kI 1)) g1 ?_
    replace H := pRun (ls' := [.ref 0, .int p1, .int p2, aD]) (st' := [.int (kI 0)]) 1 rfl H
    obtain ⟨g0, _, H⟩ := pFall (mcb_14 rfl) H
    replace H := pRun (ls' := [.ref 0, .int p1, .int p2, .int (kI 0)]) (st' := [.int (kI 0)]) 2 rfl H
    rcases pIf0 (n1 := 9) rfl (mcb_14 rfl) (mcb_14 rfl) H with ⟨g2, g0, _, H⟩ | ⟨g2, g0, _, H⟩
    · replace H := pRun (ls' := [.ref 0, .int p1, .int p2, .int (kI 0)]) (st' := [.int (kI (-100))]) 1 rfl H
      obtain ⟨g0, _, H⟩ := pFall (mcb_14 rfl) H
      exact pG_ret (pRetI H)
    · exact absurd (show ¬ ((kI 0) = 0) from g2) (by decide)
  · refine pG_neg (c := p1 < (kI 1)) g1 ?_
    replace H := pRun (ls' := [.ref 0, .int p1, .int p2, aD]) (st' := [.ref 0, .int p1]) 2 rfl H
    replace H := pGetR (r := 18) (pRf hS (by decide +kernel)) rfl H
    replace H := pGetR (r := 19) (pRf hS (by decide +kernel)) rfl H
    replace H := pGetN (v := M 19 4) rfl (by decide) H
    rcases pIfc (n1 := 6) rfl (mcb_14 rfl) (mcb_14 rfl) H with ⟨g2, g0, _, H⟩ | ⟨g2, g0, _, H⟩
    · refine pG_pos (c := (M 19 4) < p1) g2 ?_
      replace H := pRun (ls' := [.ref 0, .int p1, .int p2, aD]) (st' := [.int (kI 0)]) 1 rfl H
      obtain ⟨g0, _, H⟩ := pFall (mcb_14 rfl) H
      replace H := pRun (ls' := [.ref 0, .int p1, .int p2, .int (kI 0)]) (st' := [.int (kI 0)]) 2 rfl H
      rcases pIf0 (n1 := 9) rfl (mcb_14 rfl) (mcb_14 rfl) H with ⟨g3, g0, _, H⟩ | ⟨g3, g0, _, H⟩
      · replace H := pRun (ls' := [.ref 0, .int p1, .int p2, .int (kI 0)]) (st' := [.int (kI (-100))]) 1 rfl H
        obtain ⟨g0, _, H⟩ := pFall (mcb_14 rfl) H
        exact pG_ret (pRetI H)
      · exact absurd (show ¬ ((kI 0) = 0) from g3) (by decide)
    · refine pG_neg (c := (M 19 4) < p1) g2 ?_
      replace H := pRun (ls' := [.ref 0, .int p1, .int p2, aD]) (st' := [.int (kI 60), .int p1]) 2 rfl H
      rcases pIfc (n1 := 6) rfl (mcb_14 rfl) (mcb_14 rfl) H with ⟨g3, g0, _, H⟩ | ⟨g3, g0, _, H⟩
      · refine pG_pos (c := (kI 60) < p1) g3 ?_
        replace H := pRun (ls' := [.ref 0, .int p1, .int p2, aD]) (st' := [.int (kI 0)]) 1 rfl H
        obtain ⟨g0, _, H⟩ := pFall (mcb_14 rfl) H
        replace H := pRun (ls' := [.ref 0, .int p1, .int p2, .int (kI 0)]) (st' := [.int (kI 0)]) 2 rfl H
        rcases pIf0 (n1 := 9) rfl (mcb_14 rfl) (mcb_14 rfl) H with ⟨g4, g0, _, H⟩ | ⟨g4, g0, _, H⟩
        · replace H := pRun (ls' := [.ref 0, .int p1, .int p2, .int (kI 0)]) (st' := [.int (kI (-100))]) 1 rfl H
          obtain ⟨g0, _, H⟩ := pFall (mcb_14 rfl) H
          exact pG_ret (pRetI H)
        · exact absurd (show ¬ ((kI 0) = 0) from g4) (by decide)
      · refine pG_neg (c := (kI 60) < p1) g3 ?_
        replace H := pRun (ls' := [.ref 0, .int p1, .int p2, aD]) (st' := [.int p2]) 1 rfl H
        rcases pIf0 (n1 := 6) rfl (mcb_14 rfl) (mcb_14 rfl) H with ⟨g4, g0, _, H⟩ | ⟨g4, g0, _, H⟩
        · refine pG_pos (c := p2 < 0) g4 ?_
          replace H := pRun (ls' := [.ref 0, .int p1, .int p2, aD]) (st' := [.int (kI 0)]) 1 rfl H
          obtain ⟨g0, _, H⟩ := pFall (mcb_14 rfl) H
          replace H := pRun (ls' := [.ref 0, .int p1, .int p2, .int (kI 0)]) (st' := [.int (kI 0)]) 2 rfl H
          rcases pIf0 (n1 := 9) rfl (mcb_14 rfl) (mcb_14 rfl) H with ⟨g5, g0, _, H⟩ | ⟨g5, g0, _, H⟩
          · replace H := pRun (ls' := [.ref 0, .int p1, .int p2, .int (kI 0)]) (st' := [.int (kI (-100))]) 1 rfl H
            obtain ⟨g0, _, H⟩ := pFall (mcb_14 rfl) H
            exact pG_ret (pRetI H)
          · exact absurd (show ¬ ((kI 0) = 0) from g5) (by decide)
        · refine pG_neg (c := p2 < 0) g4 ?_
          replace H := pRun (ls' := [.ref 0, .int p1, .int p2, aD]) (st' := [.int (kI 8), .int p2]) 2 rfl H
          rcases pIfc (n1 := 6) rfl (mcb_14 rfl) (mcb_14 rfl) H with ⟨g5, g0, _, H⟩ | ⟨g5, g0, _, H⟩
          · refine pG_pos (c := (kI 8) ≤ p2) g5 ?_
            replace H := pRun (ls' := [.ref 0, .int p1, .int p2, aD]) (st' := [.int (kI 0)]) 1 rfl H
            obtain ⟨g0, _, H⟩ := pFall (mcb_14 rfl) H
            replace H := pRun (ls' := [.ref 0, .int p1, .int p2, .int (kI 0)]) (st' := [.int (kI 0)]) 2 rfl H
            rcases pIf0 (n1 := 9) rfl (mcb_14 rfl) (mcb_14 rfl) H with ⟨g6, g0, _, H⟩ | ⟨g6, g0, _, H⟩
            · replace H := pRun (ls' := [.ref 0, .int p1, .int p2, .int (kI 0)]) (st' := [.int (kI (-100))]) 1 rfl H
              obtain ⟨g0, _, H⟩ := pFall (mcb_14 rfl) H
              exact pG_ret (pRetI H)
            · exact absurd (show ¬ ((kI 0) = 0) from g6) (by decide)
          · refine pG_neg (c := (kI 8) ≤ p2) g5 ?_
            replace H := pRun (ls' := [.ref 0, .int p1, .int p2, aD]) (st' := [.int (kI 1)]) 1 rfl H
            obtain ⟨g0, _, H⟩ := pGo (n1 := 7) rfl (mcb_14 rfl) H
            replace H := pRun (ls' := [.ref 0, .int p1, .int p2, .int (kI 1)]) (st' := [.int (kI 1)]) 2 rfl H
            rcases pIf0 (n1 := 9) rfl (mcb_14 rfl) (mcb_14 rfl) H with ⟨g6, g0, _, H⟩ | ⟨g6, g0, _, H⟩
            · exact absurd (show (kI 1) = 0 from g6) (by decide)
            · replace H := pRun (ls' := [.ref 0, .int p1, .int p2, .int (kI 1)]) (st' := [.ref 0]) 1 rfl H
              replace H := pGetR (r := 18) (pRf hS (by decide +kernel)) rfl H
              replace H := pGetR (r := 26) (pRf hS (by decide +kernel)) rfl H
              replace H := pRun (ls' := [.ref 0, .int p1, .int p2, .int (kI 1)]) (st' := [.int (((p1 - (kI 1)) * (kI 8)) + p2), .ref 26]) 7 rfl H
              obtain ⟨g7, H⟩ := pIld (n := 480) (pLt (show pCa 26 480 = true by decide +kernel)) (pLn hS (show pCa 26 480 = true by decide +kernel)) H
              refine pG_gd g7 ?_
              obtain ⟨g0, _, H⟩ := pGo (n1 := 10) rfl (mcb_14 rfl) H
              exact pG_ret (pRetI H)
def l_14 : List (Nat × Nat) := []
theorem F_14 {p1 : Int32} {p2 : Int32} {M : pMem} {v : Int32} {N : pMem} (h : D_14 p1 p2 M v N) : pFr (l_14) M N :=
  (show pTf (l_14) M (D_14 p1 p2 M) from (tf_if (tf_ret pFr_refl) (tf_if (tf_ret pFr_refl) (tf_if (tf_ret pFr_refl) (tf_if (tf_ret pFr_refl) (tf_if (tf_ret pFr_refl) (tf_gd fun g7 => (tf_ret pFr_refl)))))))) v N h
/-- TwoCamps.beans(III)I -/
def D_15 (p1 : Int32) (p2 : Int32) (p3 : Int32) (M : pMem) : pT Int32 := tIf ((f_223 19 p1 p2 M) = 0) (tRet (kI (-1)) M) (tIf ((f_37 (M 19 2) p1) = 0) (tRet (kI (-1)) M) (tIf ((f_37 (M 19 2) p2) = 0) (tRet (kI (-1)) M) (tIf (¬ (f_36 p3) = 0) (tCall (D_217 M) fun v1 M1 => tCall (D_191 19 v1 p1 p2 p3 M1) fun v2 M2 => tRet v2 M2) (tRet (kI (-1)) M))))
theorem D_15_ok {X : aX} {F d : Nat} {K : Nat → aK} (hS : pS K) {p1 : Int32} {p2 : Int32} {p3 : Int32} {M : pMem} {out : Option Value × aH} (H : aM X F d 15 [.ref 0, .int p1, .int p2, .int p3] (pH K M) = some out) : pG eI K out (D_15 p1 p2 p3 M) := by
  obtain ⟨d', g0, _, H⟩ := pEnt (n := 5) (ls := [.ref 0, .int p1, .int p2, .int p3, aD]) (mcb_15 rfl) (by decide +kernel) rfl H
  unfold D_15
  replace H := pRun (ls' := [.ref 0, .int p1, .int p2, .int p3, aD]) (st' := [.ref 0]) 1 rfl H
  replace H := pGetR (r := 18) (pRf hS (by decide +kernel)) rfl H
  replace H := pGetR (r := 19) (pRf hS (by decide +kernel)) rfl H
  replace H := pRun (ls' := [.ref 0, .int p1, .int p2, .int p3, .ref 19]) (st' := [.int p2, .int p1, .ref 19]) 4 rfl H
  obtain ⟨rv, h1, hc, H⟩ := pCalV 223 2 19 (as := [.int p1, .int p2]) (rest := []) rfl (by decide) (by decide +kernel) rfl rfl H
  replace H := pUseF (f_223_ok hS (show pK 10 19 = true by decide +kernel) hc) H
  rcases pIf0 (n1 := 4) rfl (mcb_15 rfl) (mcb_15 rfl) H with ⟨g1, g0, _, H⟩ | ⟨g1, g0, _, H⟩
  · refine pG_pos (c := (f_223 19 p1 p2 M) = 0) g1 ?_
    replace H := pRun (ls' := [.ref 0, .int p1, .int p2, .int p3, .ref 19]) (st' := [.int (kI (-1))]) 1 rfl H
    exact pG_ret (pRetI H)
  · refine pG_neg (c := (f_223 19 p1 p2 M) = 0) g1 ?_
    replace H := pRun (ls' := [.ref 0, .int p1, .int p2, .int p3, .ref 19]) (st' := [.ref 19]) 1 rfl H
    replace H := pGetN (v := M 19 2) rfl (by decide) H
    replace H := pRun (ls' := [.ref 0, .int p1, .int p2, .int p3, .ref 19]) (st' := [.int p1, .int (M 19 2)]) 1 rfl H
    obtain ⟨rv, h1, hc, H⟩ := pCalT 37 2 (as := [.int (M 19 2), .int p1]) (rest := []) rfl (by decide) (by decide +kernel) rfl rfl H
    replace H := pUseF (f_37_ok hS hc) H
    rcases pIf0 (n1 := 4) rfl (mcb_15 rfl) (mcb_15 rfl) H with ⟨g2, g0, _, H⟩ | ⟨g2, g0, _, H⟩
    · refine pG_pos (c := (f_37 (M 19 2) p1) = 0) g2 ?_
      replace H := pRun (ls' := [.ref 0, .int p1, .int p2, .int p3, .ref 19]) (st' := [.int (kI (-1))]) 1 rfl H
      exact pG_ret (pRetI H)
    · refine pG_neg (c := (f_37 (M 19 2) p1) = 0) g2 ?_
      replace H := pRun (ls' := [.ref 0, .int p1, .int p2, .int p3, .ref 19]) (st' := [.ref 19]) 1 rfl H
      replace H := pGetN (v := M 19 2) rfl (by decide) H
      replace H := pRun (ls' := [.ref 0, .int p1, .int p2, .int p3, .ref 19]) (st' := [.int p2, .int (M 19 2)]) 1 rfl H
      obtain ⟨rv, h1, hc, H⟩ := pCalT 37 2 (as := [.int (M 19 2), .int p2]) (rest := []) rfl (by decide) (by decide +kernel) rfl rfl H
      replace H := pUseF (f_37_ok hS hc) H
      rcases pIf0 (n1 := 4) rfl (mcb_15 rfl) (mcb_15 rfl) H with ⟨g3, g0, _, H⟩ | ⟨g3, g0, _, H⟩
      · refine pG_pos (c := (f_37 (M 19 2) p2) = 0) g3 ?_
        replace H := pRun (ls' := [.ref 0, .int p1, .int p2, .int p3, .ref 19]) (st' := [.int (kI (-1))]) 1 rfl H
        exact pG_ret (pRetI H)
      · refine pG_neg (c := (f_37 (M 19 2) p2) = 0) g3 ?_
        replace H := pRun (ls' := [.ref 0, .int p1, .int p2, .int p3, .ref 19]) (st' := [.int p3]) 1 rfl H
        obtain ⟨rv, h1, hc, H⟩ := pCalT 36 1 (as := [.int p3]) (rest := []) rfl (by decide) (by decide +kernel) rfl rfl H
        replace H := pUseF (f_36_ok hS hc) H
        rcases pIf0 (n1 := 5) rfl (mcb_15 rfl) (mcb_15 rfl) H with ⟨g4, g0, _, H⟩ | ⟨g4, g0, _, H⟩
        · refine pG_pos (c := ¬ (f_36 p3) = 0) g4 ?_
          replace H := pRun (ls' := [.ref 0, .int p1, .int p2, .int p3, .ref 19]) (st' := [.ref 0]) 1 rfl H
          replace H := pGetR (r := 133) (pRf hS (by decide +kernel)) rfl H
          replace H := pRun (ls' := [.ref 0, .int p1, .int p2, .int p3, .ref 19]) (st' := [.ref 0, .ref 19, .ref 133]) 2 rfl H
          replace H := pGetR (r := 18) (pRf hS (by decide +kernel)) rfl H
          obtain ⟨rv, h1, hc, H⟩ := pCalV 217 0 18 (as := []) (rest := [.ref 19, .ref 133]) rfl (by decide) (by decide +kernel) rfl rfl H
          obtain ⟨v1, M1, hD, H⟩ := pUseR (D_217_ok hS hc) H
          have hv1 := D_217_k hD
          refine pG_call (x := v1) (M1 := M1) hD ?_
          replace H := pRun (ls' := [.ref 0, .int p1, .int p2, .int p3, .ref 19]) (st' := [.int p3, .int p2, .int p1, .ref v1, .ref 19, .ref 133]) 3 rfl H
          obtain ⟨rv, h1, hc, H⟩ := pCalV 191 5 133 (as := [.ref 19, .ref v1, .int p1, .int p2, .int p3]) (rest := []) rfl (by decide) (by decide +kernel) rfl rfl H
          obtain ⟨v2, M2, hD, H⟩ := pUseI (D_191_ok hS (show pK 10 19 = true by decide +kernel) hv1 hc) H
          refine pG_call (x := v2) (M1 := M2) hD ?_
          exact pG_ret (pRetI H)
        · refine pG_neg (c := ¬ (f_36 p3) = 0) g4 ?_
          replace H := pRun (ls' := [.ref 0, .int p1, .int p2, .int p3, .ref 19]) (st' := [.int (kI (-1))]) 1 rfl H
          exact pG_ret (pRetI H)
def l_15 : List (Nat × Nat) := []
theorem F_15 {p1 : Int32} {p2 : Int32} {p3 : Int32} {M : pMem} {v : Int32} {N : pMem} (h : D_15 p1 p2 p3 M v N) : pFr (l_15) M N :=
  (show pTf (l_15) M (D_15 p1 p2 p3 M) from (tf_if (tf_ret pFr_refl) (tf_if (tf_ret pFr_refl) (tf_if (tf_ret pFr_refl) (tf_if (tf_callR pFr_refl (fun _ _ h => F_217 h) [] rfl fun v1 M1 d1 f1 => have hv1 := D_217_k d1; (tf_call f1 (fun _ _ h => F_191 (show pK 10 19 = true by decide +kernel) hv1 h) [] rfl fun _ M2 f2 => (tf_ret f2))) (tf_ret pFr_refl)))))) v N h
/-- TwoCamps.seen(II)I -/
def D_16 (p1 : Int32) (p2 : Int32) (M : pMem) : pT Int32 := tIf ((f_36 p1) = 0) (tRet (kI (-10000)) M) (tIf (p2 < 0) (tRet (kI (-10000)) M) (tIf (p2 ≤ (kI 2)) (tIf (¬ p2 = (kI 1)) (tCall (D_217 M) fun v1 M1 => tCall (D_192 19 v1 p1 (kI 1) M1) fun v2 M2 => tIf (¬ p2 = 0) (tCall (D_217 M2) fun v3 M3 => tCall (D_192 19 v3 p1 (kI 0) M3) fun v4 M4 => tIf (¬ p2 = (kI 1)) (tRet (v2 - v4) M4) (tRet v4 M4)) (tIf (¬ p2 = (kI 1)) (tRet (v2 - (kI 0)) M2) (tRet (kI 0) M2))) (tIf (¬ p2 = 0) (tCall (D_217 M) fun v1 M1 => tCall (D_192 19 v1 p1 (kI 0) M1) fun v2 M2 => tIf (¬ p2 = (kI 1)) (tRet ((kI 0) - v2) M2) (tRet v2 M2)) (tIf (¬ p2 = (kI 1)) (tRet ((kI 0) - (kI 0)) M) (tRet (kI 0) M)))) (tRet (kI (-10000)) M)))
theorem D_16_ok {X : aX} {F d : Nat} {K : Nat → aK} (hS : pS K) {p1 : Int32} {p2 : Int32} {M : pMem} {out : Option Value × aH} (H : aM X F d 16 [.ref 0, .int p1, .int p2] (pH K M) = some out) : pG eI K out (D_16 p1 p2 M) := by
  obtain ⟨d', g0, _, H⟩ := pEnt (n := 5) (ls := [.ref 0, .int p1, .int p2, aD, aD]) (mcb_16 rfl) (by decide +kernel) rfl H
  unfold D_16
  replace H := pRun (ls' := [.ref 0, .int p1, .int p2, aD, aD]) (st' := [.int p1]) 1 rfl H
  obtain ⟨rv, h1, hc, H⟩ := pCalT 36 1 (as := [.int p1]) (rest := []) rfl (by decide) (by decide +kernel) rfl rfl H
  replace H := pUseF (f_36_ok hS hc) H
  rcases pIf0 (n1 := 3) rfl (mcb_16 rfl) (mcb_16 rfl) H with ⟨g1, g0, _, H⟩ | ⟨g1, g0, _, H⟩
  · refine pG_pos (c := (f_36 p1) = 0) g1 ?_
    replace H := pRun (ls' := [.ref 0, .int p1, .int p2, aD, aD]) (st' := [.int (kI (-10000))]) 1 rfl H
    exact pG_ret (pRetI H)
  · refine pG_neg (c := (f_36 p1) = 0) g1 ?_
    replace H := pRun (ls' := [.ref 0, .int p1, .int p2, aD, aD]) (st' := [.int p2]) 1 rfl H
    rcases pIf0 (n1 := 3) rfl (mcb_16 rfl) (mcb_16 rfl) H with ⟨g2, g0, _, H⟩ | ⟨g2, g0, _, H⟩
    · refine pG_pos (c := p2 < 0) g2 ?_
      replace H := pRun (ls' := [.ref 0, .int p1, .int p2, aD, aD]) (st' := [.int (kI (-10000))]) 1 rfl H
      exact pG_ret (pRetI H)
    · refine pG_neg (c := p2 < 0) g2 ?_
      replace H := pRun (ls' := [.ref 0, .int p1, .int p2, aD, aD]) (st' := [.int (kI 2), .int p2]) 2 rfl H
      rcases pIfc (n1 := 4) rfl (mcb_16 rfl) (mcb_16 rfl) H with ⟨g3, g0, _, H⟩ | ⟨g3, g0, _, H⟩
      · refine pG_pos (c := p2 ≤ (kI 2)) g3 ?_
        replace H := pRun (ls' := [.ref 0, .int p1, .int p2, aD, aD]) (st' := [.int (kI 1), .int p2]) 2 rfl H
        rcases pIfc (n1 := 6) rfl (mcb_16 rfl) (mcb_16 rfl) H with ⟨g4, g0, _, H⟩ | ⟨g4, g0, _, H⟩
        · refine pG_pos (c := ¬ p2 = (kI 1)) g4 ?_
          replace H := pRun (ls' := [.ref 0, .int p1, .int p2, aD, aD]) (st' := [.ref 0]) 1 rfl H
          replace H := pGetR (r := 133) (pRf hS (by decide +kernel)) rfl H
          replace H := pRun (ls' := [.ref 0, .int p1, .int p2, aD, aD]) (st' := [.ref 0, .ref 133]) 1 rfl H
          replace H := pGetR (r := 18) (pRf hS (by decide +kernel)) rfl H
          replace H := pGetR (r := 19) (pRf hS (by decide +kernel)) rfl H
          replace H := pRun (ls' := [.ref 0, .int p1, .int p2, aD, aD]) (st' := [.ref 0, .ref 19, .ref 133]) 1 rfl H
          replace H := pGetR (r := 18) (pRf hS (by decide +kernel)) rfl H
          obtain ⟨rv, h1, hc, H⟩ := pCalV 217 0 18 (as := []) (rest := [.ref 19, .ref 133]) rfl (by decide) (by decide +kernel) rfl rfl H
          obtain ⟨v1, M1, hD, H⟩ := pUseR (D_217_ok hS hc) H
          have hv1 := D_217_k hD
          refine pG_call (x := v1) (M1 := M1) hD ?_
          replace H := pRun (ls' := [.ref 0, .int p1, .int p2, aD, aD]) (st' := [.int (kI 1), .int p1, .ref v1, .ref 19, .ref 133]) 2 rfl H
          obtain ⟨rv, h1, hc, H⟩ := pCalV 192 4 133 (as := [.ref 19, .ref v1, .int p1, .int (kI 1)]) (rest := []) rfl (by decide) (by decide +kernel) rfl rfl H
          obtain ⟨v2, M2, hD, H⟩ := pUseI (D_192_ok hS (show pK 10 19 = true by decide +kernel) hv1 hc) H
          refine pG_call (x := v2) (M1 := M2) hD ?_
          obtain ⟨g0, _, H⟩ := pFall (mcb_16 rfl) H
          replace H := pRun (ls' := [.ref 0, .int p1, .int p2, .int v2, aD]) (st' := [.int p2]) 2 rfl H
          rcases pIf0 (n1 := 9) rfl (mcb_16 rfl) (mcb_16 rfl) H with ⟨g5, g0, _, H⟩ | ⟨g5, g0, _, H⟩
          · refine pG_pos (c := ¬ p2 = 0) g5 ?_
            replace H := pRun (ls' := [.ref 0, .int p1, .int p2, .int v2, aD]) (st' := [.ref 0]) 1 rfl H
            replace H := pGetR (r := 133) (pRf hS (by decide +kernel)) rfl H
            replace H := pRun (ls' := [.ref 0, .int p1, .int p2, .int v2, aD]) (st' := [.ref 0, .ref 133]) 1 rfl H
            replace H := pGetR (r := 18) (pRf hS (by decide +kernel)) rfl H
            replace H := pGetR (r := 19) (pRf hS (by decide +kernel)) rfl H
            replace H := pRun (ls' := [.ref 0, .int p1, .int p2, .int v2, aD]) (st' := [.ref 0, .ref 19, .ref 133]) 1 rfl H
            replace H := pGetR (r := 18) (pRf hS (by decide +kernel)) rfl H
            obtain ⟨rv, h1, hc, H⟩ := pCalV 217 0 18 (as := []) (rest := [.ref 19, .ref 133]) rfl (by decide) (by decide +kernel) rfl rfl H
            obtain ⟨v3, M3, hD, H⟩ := pUseR (D_217_ok hS hc) H
            have hv3 := D_217_k hD
            refine pG_call (x := v3) (M1 := M3) hD ?_
            replace H := pRun (ls' := [.ref 0, .int p1, .int p2, .int v2, aD]) (st' := [.int (kI 0), .int p1, .ref v3, .ref 19, .ref 133]) 2 rfl H
            obtain ⟨rv, h1, hc, H⟩ := pCalV 192 4 133 (as := [.ref 19, .ref v3, .int p1, .int (kI 0)]) (rest := []) rfl (by decide) (by decide +kernel) rfl rfl H
            obtain ⟨v4, M4, hD, H⟩ := pUseI (D_192_ok hS (show pK 10 19 = true by decide +kernel) hv3 hc) H
            refine pG_call (x := v4) (M1 := M4) hD ?_
            obtain ⟨g0, _, H⟩ := pFall (mcb_16 rfl) H
            replace H := pRun (ls' := [.ref 0, .int p1, .int p2, .int v2, .int v4]) (st' := [.int (kI 1), .int p2]) 3 rfl H
            rcases pIfc (n1 := 12) rfl (mcb_16 rfl) (mcb_16 rfl) H with ⟨g6, g0, _, H⟩ | ⟨g6, g0, _, H⟩
            · refine pG_pos (c := ¬ p2 = (kI 1)) g6 ?_
              replace H := pRun (ls' := [.ref 0, .int p1, .int p2, .int v2, .int v4]) (st' := [.int (v2 - v4)]) 3 rfl H
              obtain ⟨g0, _, H⟩ := pFall (mcb_16 rfl) H
              exact pG_ret (pRetI H)
            · refine pG_neg (c := ¬ p2 = (kI 1)) g6 ?_
              replace H := pRun (ls' := [.ref 0, .int p1, .int p2, .int v2, .int v4]) (st' := [.int v4]) 1 rfl H
              obtain ⟨g0, _, H⟩ := pGo (n1 := 13) rfl (mcb_16 rfl) H
              exact pG_ret (pRetI H)
          · refine pG_neg (c := ¬ p2 = 0) g5 ?_
            replace H := pRun (ls' := [.ref 0, .int p1, .int p2, .int v2, aD]) (st' := [.int (kI 0)]) 1 rfl H
            obtain ⟨g0, _, H⟩ := pGo (n1 := 10) rfl (mcb_16 rfl) H
            replace H := pRun (ls' := [.ref 0, .int p1, .int p2, .int v2, .int (kI 0)]) (st' := [.int (kI 1), .int p2]) 3 rfl H
            rcases pIfc (n1 := 12) rfl (mcb_16 rfl) (mcb_16 rfl) H with ⟨g6, g0, _, H⟩ | ⟨g6, g0, _, H⟩
            · refine pG_pos (c := ¬ p2 = (kI 1)) g6 ?_
              replace H := pRun (ls' := [.ref 0, .int p1, .int p2, .int v2, .int (kI 0)]) (st' := [.int (v2 - (kI 0))]) 3 rfl H
              obtain ⟨g0, _, H⟩ := pFall (mcb_16 rfl) H
              exact pG_ret (pRetI H)
            · refine pG_neg (c := ¬ p2 = (kI 1)) g6 ?_
              replace H := pRun (ls' := [.ref 0, .int p1, .int p2, .int v2, .int (kI 0)]) (st' := [.int (kI 0)]) 1 rfl H
              obtain ⟨g0, _, H⟩ := pGo (n1 := 13) rfl (mcb_16 rfl) H
              exact pG_ret (pRetI H)
        · refine pG_neg (c := ¬ p2 = (kI 1)) g4 ?_
          replace H := pRun (ls' := [.ref 0, .int p1, .int p2, aD, aD]) (st' := [.int (kI 0)]) 1 rfl H
          obtain ⟨g0, _, H⟩ := pGo (n1 := 7) rfl (mcb_16 rfl) H
          replace H := pRun (ls' := [.ref 0, .int p1, .int p2, .int (kI 0), aD]) (st' := [.int p2]) 2 rfl H
          rcases pIf0 (n1 := 9) rfl (mcb_16 rfl) (mcb_16 rfl) H with ⟨g5, g0, _, H⟩ | ⟨g5, g0, _, H⟩
          · refine pG_pos (c := ¬ p2 = 0) g5 ?_
            replace H := pRun (ls' := [.ref 0, .int p1, .int p2, .int (kI 0), aD]) (st' := [.ref 0]) 1 rfl H
            replace H := pGetR (r := 133) (pRf hS (by decide +kernel)) rfl H
            replace H := pRun (ls' := [.ref 0, .int p1, .int p2, .int (kI 0), aD]) (st' := [.ref 0, .ref 133]) 1 rfl H
            replace H := pGetR (r := 18) (pRf hS (by decide +kernel)) rfl H
            replace H := pGetR (r := 19) (pRf hS (by decide +kernel)) rfl H
            replace H := pRun (ls' := [.ref 0, .int p1, .int p2, .int (kI 0), aD]) (st' := [.ref 0, .ref 19, .ref 133]) 1 rfl H
            replace H := pGetR (r := 18) (pRf hS (by decide +kernel)) rfl H
            obtain ⟨rv, h1, hc, H⟩ := pCalV 217 0 18 (as := []) (rest := [.ref 19, .ref 133]) rfl (by decide) (by decide +kernel) rfl rfl H
            obtain ⟨v1, M1, hD, H⟩ := pUseR (D_217_ok hS hc) H
            have hv1 := D_217_k hD
            refine pG_call (x := v1) (M1 := M1) hD ?_
            replace H := pRun (ls' := [.ref 0, .int p1, .int p2, .int (kI 0), aD]) (st' := [.int (kI 0), .int p1, .ref v1, .ref 19, .ref 133]) 2 rfl H
            obtain ⟨rv, h1, hc, H⟩ := pCalV 192 4 133 (as := [.ref 19, .ref v1, .int p1, .int (kI 0)]) (rest := []) rfl (by decide) (by decide +kernel) rfl rfl H
            obtain ⟨v2, M2, hD, H⟩ := pUseI (D_192_ok hS (show pK 10 19 = true by decide +kernel) hv1 hc) H
            refine pG_call (x := v2) (M1 := M2) hD ?_
            obtain ⟨g0, _, H⟩ := pFall (mcb_16 rfl) H
            replace H := pRun (ls' := [.ref 0, .int p1, .int p2, .int (kI 0), .int v2]) (st' := [.int (kI 1), .int p2]) 3 rfl H
            rcases pIfc (n1 := 12) rfl (mcb_16 rfl) (mcb_16 rfl) H with ⟨g6, g0, _, H⟩ | ⟨g6, g0, _, H⟩
            · refine pG_pos (c := ¬ p2 = (kI 1)) g6 ?_
              replace H := pRun (ls' := [.ref 0, .int p1, .int p2, .int (kI 0), .int v2]) (st' := [.int ((kI 0) - v2)]) 3 rfl H
              obtain ⟨g0, _, H⟩ := pFall (mcb_16 rfl) H
              exact pG_ret (pRetI H)
            · refine pG_neg (c := ¬ p2 = (kI 1)) g6 ?_
              replace H := pRun (ls' := [.ref 0, .int p1, .int p2, .int (kI 0), .int v2]) (st' := [.int v2]) 1 rfl H
              obtain ⟨g0, _, H⟩ := pGo (n1 := 13) rfl (mcb_16 rfl) H
              exact pG_ret (pRetI H)
          · refine pG_neg (c := ¬ p2 = 0) g5 ?_
            replace H := pRun (ls' := [.ref 0, .int p1, .int p2, .int (kI 0), aD]) (st' := [.int (kI 0)]) 1 rfl H
            obtain ⟨g0, _, H⟩ := pGo (n1 := 10) rfl (mcb_16 rfl) H
            replace H := pRun (ls' := [.ref 0, .int p1, .int p2, .int (kI 0), .int (kI 0)]) (st' := [.int (kI 1), .int p2]) 3 rfl H
            rcases pIfc (n1 := 12) rfl (mcb_16 rfl) (mcb_16 rfl) H with ⟨g6, g0, _, H⟩ | ⟨g6, g0, _, H⟩
            · refine pG_pos (c := ¬ p2 = (kI 1)) g6 ?_
              replace H := pRun (ls' := [.ref 0, .int p1, .int p2, .int (kI 0), .int (kI 0)]) (st' := [.int ((kI 0) - (kI 0))]) 3 rfl H
              obtain ⟨g0, _, H⟩ := pFall (mcb_16 rfl) H
              exact pG_ret (pRetI H)
            · refine pG_neg (c := ¬ p2 = (kI 1)) g6 ?_
              replace H := pRun (ls' := [.ref 0, .int p1, .int p2, .int (kI 0), .int (kI 0)]) (st' := [.int (kI 0)]) 1 rfl H
              obtain ⟨g0, _, H⟩ := pGo (n1 := 13) rfl (mcb_16 rfl) H
              exact pG_ret (pRetI H)
      · refine pG_neg (c := p2 ≤ (kI 2)) g3 ?_
        replace H := pRun (ls' := [.ref 0, .int p1, .int p2, aD, aD]) (st' := [.int (kI (-10000))]) 1 rfl H
        exact pG_ret (pRetI H)
def l_16 : List (Nat × Nat) := []
theorem F_16 {p1 : Int32} {p2 : Int32} {M : pMem} {v : Int32} {N : pMem} (h : D_16 p1 p2 M v N) : pFr (l_16) M N :=
  (show pTf (l_16) M (D_16 p1 p2 M) from (tf_if (tf_ret pFr_refl) (tf_if (tf_ret pFr_refl) (tf_if (tf_if (tf_callR pFr_refl (fun _ _ h => F_217 h) [] rfl fun v1 M1 d1 f1 => have hv1 := D_217_k d1; (tf_call f1 (fun _ _ h => F_192 (show pK 10 19 = true by decide +kernel) hv1 h) [] rfl fun _ M2 f2 => (tf_if (tf_callR f2 (fun _ _ h => F_217 h) [] rfl fun v3 M3 d3 f3 => have hv3 := D_217_k d3; (tf_call f3 (fun _ _ h => F_192 (show pK 10 19 = true by decide +kernel) hv3 h) [] rfl fun _ M4 f4 => (tf_if (tf_ret f4) (tf_ret f4)))) (tf_if (tf_ret f2) (tf_ret f2))))) (tf_if (tf_callR pFr_refl (fun _ _ h => F_217 h) [] rfl fun v1 M1 d1 f1 => have hv1 := D_217_k d1; (tf_call f1 (fun _ _ h => F_192 (show pK 10 19 = true by decide +kernel) hv1 h) [] rfl fun _ M2 f2 => (tf_if (tf_ret f2) (tf_ret f2)))) (tf_if (tf_ret pFr_refl) (tf_ret pFr_refl)))) (tf_ret pFr_refl))))) v N h
/-- TwoCamps.led(IIZI)I -/
def D_17 (p1 : Int32) (p2 : Int32) (p3 : Int32) (p4 : Int32) (M : pMem) : pT Int32 := tIf ((f_33 p1) = 0) (tRet (kI (-100)) M) (tIf (¬ (f_33 p2) = 0) (tGd (pIn p1 4) <| tGd (pIn p2 4) <| tCall (D_208 (37 + 11 * ix p1) (30 + 11 * ix p2) p3 M) fun _ M1 => tIf (p4 = kI 0) (tRet ((f_236 143 (kI 4) M1) - (f_236 19 (kI 4) M1)) M1) <| tIf (p4 = kI 1) (tRet ((f_236 143 (kI 5) M1) - (f_236 19 (kI 5) M1)) M1) <| tIf (p4 = kI 2) (tCall (D_230 143 M1) fun v2 M2 => tRet v2 M2) <| tIf (p4 = kI 3) (tRet ((f_239 (M1 19 2)) - (f_239 (M1 143 2))) M1) <| tIf (p4 = kI 4) (tRet (M1 138 2) M1) <| tIf (p4 = kI 5) (tRet ((f_238 143 M1) - (f_238 19 M1)) M1) <| tIf (p4 = kI 6) (tRet ((M1 143 4) - (M1 19 4)) M1) <| tRet (kI (-100)) M1) (tRet (kI (-100)) M))
theorem D_17_ok {X : aX} {F d : Nat} {K : Nat → aK} (hS : pS K) {p1 : Int32} {p2 : Int32} {p3 : Int32} {p4 : Int32} {M : pMem} {out : Option Value × aH} (H : aM X F d 17 [.ref 0, .int p1, .int p2, .int p3, .int p4] (pH K M) = some out) : pG eI K out (D_17 p1 p2 p3 p4 M) := by
  obtain ⟨d', g0, _, H⟩ := pEnt (n := 7) (ls := [.ref 0, .int p1, .int p2, .int p3, .int p4, aD, aD]) (mcb_17 rfl) (by decide +kernel) rfl H
  unfold D_17
  replace H := pRun (ls' := [.ref 0, .int p1, .int p2, .int p3, .int p4, aD, aD]) (st' := [.int p1]) 1 rfl H
  obtain ⟨rv, h1, hc, H⟩ := pCalT 33 1 (as := [.int p1]) (rest := []) rfl (by decide) (by decide +kernel) rfl rfl H
  replace H := pUseF (f_33_ok hS hc) H
  rcases pIf0 (n1 := 2) rfl (mcb_17 rfl) (mcb_17 rfl) H with ⟨g1, g0, _, H⟩ | ⟨g1, g0, _, H⟩
  · refine pG_pos (c := (f_33 p1) = 0) g1 ?_
    replace H := pRun (ls' := [.ref 0, .int p1, .int p2, .int p3, .int p4, aD, aD]) (st' := [.int (kI (-100))]) 1 rfl H
    exact pG_ret (pRetI H)
  · refine pG_neg (c := (f_33 p1) = 0) g1 ?_
    replace H := pRun (ls' := [.ref 0, .int p1, .int p2, .int p3, .int p4, aD, aD]) (st' := [.int p2]) 1 rfl H
    obtain ⟨rv, h1, hc, H⟩ := pCalT 33 1 (as := [.int p2]) (rest := []) rfl (by decide) (by decide +kernel) rfl rfl H
    replace H := pUseF (f_33_ok hS hc) H
    rcases pIf0 (n1 := 3) rfl (mcb_17 rfl) (mcb_17 rfl) H with ⟨g2, g0, _, H⟩ | ⟨g2, g0, _, H⟩
    · refine pG_pos (c := ¬ (f_33 p2) = 0) g2 ?_
      replace H := pRun (ls' := [.ref 0, .int p1, .int p2, .int p3, .int p4, aD, aD]) (st' := [.ref 0]) 1 rfl H
      replace H := pGetR (r := 18) (pRf hS (by decide +kernel)) rfl H
      replace H := pGetR (r := 19) (pRf hS (by decide +kernel)) rfl H
      replace H := pRun (ls' := [.ref 0, .int p1, .int p2, .int p3, .int p4, .ref 19, aD]) (st' := [.ref 0]) 2 rfl H
      replace H := pGetR (r := 138) (pRf hS (by decide +kernel)) rfl H
      replace H := pRun (ls' := [.ref 0, .int p1, .int p2, .int p3, .int p4, .ref 19, aD]) (st' := [.ref 0, .ref 138]) 1 rfl H
      replace H := pGetR (r := 18) (pRf hS (by decide +kernel)) rfl H
      replace H := pRun (ls' := [.ref 0, .int p1, .int p2, .int p3, .int p4, .ref 19, aD]) (st' := [.ref 0, .ref 18, .ref 138]) 1 rfl H
      replace H := pGetR (r := 18) (pRf hS (by decide +kernel)) rfl H
      replace H := pGetR (r := 25) (pRf hS (by decide +kernel)) rfl H
      replace H := pRun (ls' := [.ref 0, .int p1, .int p2, .int p3, .int p4, .ref 19, aD]) (st' := [.int p1, .ref 25, .ref 18, .ref 138]) 1 rfl H
      obtain ⟨g3, H⟩ := pAld (n := 4) (r := 37 + 11 * ix p1) (pArL hS (show pAr 25 4 37 11 3 = true by decide +kernel)) (fun h => pArR hS (show pAr 25 4 37 11 3 = true by decide +kernel) h) H
      refine pG_gd g3 ?_
      replace H := pRun (ls' := [.ref 0, .int p1, .int p2, .int p3, .int p4, .ref 19, aD]) (st' := [.ref 0, .ref (37 + 11 * ix p1), .ref 18, .ref 138]) 1 rfl H
      replace H := pGetR (r := 18) (pRf hS (by decide +kernel)) rfl H
      replace H := pGetR (r := 24) (pRf hS (by decide +kernel)) rfl H
      replace H := pRun (ls' := [.ref 0, .int p1, .int p2, .int p3, .int p4, .ref 19, aD]) (st' := [.int p2, .ref 24, .ref (37 + 11 * ix p1), .ref 18, .ref 138]) 1 rfl H
      obtain ⟨g4, H⟩ := pAld (n := 4) (r := 30 + 11 * ix p2) (pArL hS (show pAr 24 4 30 11 2 = true by decide +kernel)) (fun h => pArR hS (show pAr 24 4 30 11 2 = true by decide +kernel) h) H
      refine pG_gd g4 ?_
      replace H := pRun (ls' := [.ref 0, .int p1, .int p2, .int p3, .int p4, .ref 19, aD]) (st' := [.int p3, .ref (30 + 11 * ix p2), .ref (37 + 11 * ix p1), .ref 18, .ref 138]) 1 rfl H
      obtain ⟨rv, h1, hc, H⟩ := pCalV 208 4 138 (as := [.ref 18, .ref (37 + 11 * ix p1), .ref (30 + 11 * ix p2), .int p3]) (rest := []) rfl (by decide) (by decide +kernel) rfl rfl H
      obtain ⟨v1, M1, hD, H⟩ := pUseK (D_208_ok hS (pArK (show pAr 25 4 37 11 3 = true by decide +kernel) (by decide) g3) (pArK (show pAr 24 4 30 11 2 = true by decide +kernel) (by decide) g4) hc) H
      refine pG_call (x := v1) (M1 := M1) hD ?_
      replace H := pRun (ls' := [.ref 0, .int p1, .int p2, .int p3, .int p4, .ref 19, .ref 143]) (st' := [.int p4]) 2 rfl H
      by_cases g5 : p4 = kI 0
      · refine pG_pos g5 ?_
        obtain ⟨g0, _, H⟩ := pTsC g5 (by decide) (n1 := 4) rfl (mcb_17 rfl) H
        replace H := pRun (ls' := [.ref 0, .int p1, .int p2, .int p3, .int p4, .ref 19, .ref 143]) (st' := [.int (kI 4), .ref 143]) 2 rfl H
        obtain ⟨rv, h1, hc, H⟩ := pCalV 236 1 143 (as := [.int (kI 4)]) (rest := []) rfl (by decide) (by decide +kernel) rfl rfl H
        replace H := pUseF (f_236_ok hS (show pK 10 143 = true by decide +kernel) hc) H
        replace H := pRun (ls' := [.ref 0, .int p1, .int p2, .int p3, .int p4, .ref 19, .ref 143]) (st' := [.int (kI 4), .ref 19, .int (f_236 143 (kI 4) M1)]) 2 rfl H
        obtain ⟨rv, h1, hc, H⟩ := pCalV 236 1 19 (as := [.int (kI 4)]) (rest := [.int (f_236 143 (kI 4) M1)]) rfl (by decide) (by decide +kernel) rfl rfl H
        replace H := pUseF (f_236_ok hS (show pK 10 19 = true by decide +kernel) hc) H
        replace H := pRun (ls' := [.ref 0, .int p1, .int p2, .int p3, .int p4, .ref 19, .ref 143]) (st' := [.int ((f_236 143 (kI 4) M1) - (f_236 19 (kI 4) M1))]) 1 rfl H
        exact pG_ret (pRetI H)
      refine pG_neg g5 ?_
      by_cases g6 : p4 = kI 1
      · refine pG_pos g6 ?_
        obtain ⟨g0, _, H⟩ := pTsC g6 (by decide) (n1 := 5) rfl (mcb_17 rfl) H
        replace H := pRun (ls' := [.ref 0, .int p1, .int p2, .int p3, .int p4, .ref 19, .ref 143]) (st' := [.int (kI 5), .ref 143]) 2 rfl H
        obtain ⟨rv, h1, hc, H⟩ := pCalV 236 1 143 (as := [.int (kI 5)]) (rest := []) rfl (by decide) (by decide +kernel) rfl rfl H
        replace H := pUseF (f_236_ok hS (show pK 10 143 = true by decide +kernel) hc) H
        replace H := pRun (ls' := [.ref 0, .int p1, .int p2, .int p3, .int p4, .ref 19, .ref 143]) (st' := [.int (kI 5), .ref 19, .int (f_236 143 (kI 5) M1)]) 2 rfl H
        obtain ⟨rv, h1, hc, H⟩ := pCalV 236 1 19 (as := [.int (kI 5)]) (rest := [.int (f_236 143 (kI 5) M1)]) rfl (by decide) (by decide +kernel) rfl rfl H
        replace H := pUseF (f_236_ok hS (show pK 10 19 = true by decide +kernel) hc) H
        replace H := pRun (ls' := [.ref 0, .int p1, .int p2, .int p3, .int p4, .ref 19, .ref 143]) (st' := [.int ((f_236 143 (kI 5) M1) - (f_236 19 (kI 5) M1))]) 1 rfl H
        exact pG_ret (pRetI H)
      refine pG_neg g6 ?_
      by_cases g7 : p4 = kI 2
      · refine pG_pos g7 ?_
        obtain ⟨g0, _, H⟩ := pTsC g7 (by decide) (n1 := 6) rfl (mcb_17 rfl) H
        replace H := pRun (ls' := [.ref 0, .int p1, .int p2, .int p3, .int p4, .ref 19, .ref 143]) (st' := [.ref 143]) 1 rfl H
        obtain ⟨rv, h1, hc, H⟩ := pCalV 230 0 143 (as := []) (rest := []) rfl (by decide) (by decide +kernel) rfl rfl H
        obtain ⟨v2, M2, hD, H⟩ := pUseI (D_230_ok hS (show pK 10 143 = true by decide +kernel) hc) H
        refine pG_call (x := v2) (M1 := M2) hD ?_
        exact pG_ret (pRetI H)
      refine pG_neg g7 ?_
      by_cases g8 : p4 = kI 3
      · refine pG_pos g8 ?_
        obtain ⟨g0, _, H⟩ := pTsC g8 (by decide) (n1 := 7) rfl (mcb_17 rfl) H
        replace H := pRun (ls' := [.ref 0, .int p1, .int p2, .int p3, .int p4, .ref 19, .ref 143]) (st' := [.ref 19]) 1 rfl H
        replace H := pGetN (v := M1 19 2) rfl (by decide) H
        obtain ⟨rv, h1, hc, H⟩ := pCalT 239 1 (as := [.int (M1 19 2)]) (rest := []) rfl (by decide) (by decide +kernel) rfl rfl H
        replace H := pUseF (f_239_ok hS hc) H
        replace H := pRun (ls' := [.ref 0, .int p1, .int p2, .int p3, .int p4, .ref 19, .ref 143]) (st' := [.ref 143, .int (f_239 (M1 19 2))]) 1 rfl H
        replace H := pGetN (v := M1 143 2) rfl (by decide) H
        obtain ⟨rv, h1, hc, H⟩ := pCalT 239 1 (as := [.int (M1 143 2)]) (rest := [.int (f_239 (M1 19 2))]) rfl (by decide) (by decide +kernel) rfl rfl H
        replace H := pUseF (f_239_ok hS hc) H
        replace H := pRun (ls' := [.ref 0, .int p1, .int p2, .int p3, .int p4, .ref 19, .ref 143]) (st' := [.int ((f_239 (M1 19 2)) - (f_239 (M1 143 2)))]) 1 rfl H
        exact pG_ret (pRetI H)
      refine pG_neg g8 ?_
      by_cases g9 : p4 = kI 4
      · refine pG_pos g9 ?_
        obtain ⟨g0, _, H⟩ := pTsC g9 (by decide) (n1 := 8) rfl (mcb_17 rfl) H
        replace H := pRun (ls' := [.ref 0, .int p1, .int p2, .int p3, .int p4, .ref 19, .ref 143]) (st' := [.ref 0]) 1 rfl H
        replace H := pGetR (r := 138) (pRf hS (by decide +kernel)) rfl H
        replace H := pGetN (v := M1 138 2) rfl (by decide) H
        exact pG_ret (pRetI H)
      refine pG_neg g9 ?_
      by_cases g10 : p4 = kI 5
      · refine pG_pos g10 ?_
        obtain ⟨g0, _, H⟩ := pTsC g10 (by decide) (n1 := 9) rfl (mcb_17 rfl) H
        replace H := pRun (ls' := [.ref 0, .int p1, .int p2, .int p3, .int p4, .ref 19, .ref 143]) (st' := [.ref 143]) 1 rfl H
        obtain ⟨rv, h1, hc, H⟩ := pCalV 238 0 143 (as := []) (rest := []) rfl (by decide) (by decide +kernel) rfl rfl H
        replace H := pUseF (f_238_ok hS (show pK 10 143 = true by decide +kernel) hc) H
        replace H := pRun (ls' := [.ref 0, .int p1, .int p2, .int p3, .int p4, .ref 19, .ref 143]) (st' := [.ref 19, .int (f_238 143 M1)]) 1 rfl H
        obtain ⟨rv, h1, hc, H⟩ := pCalV 238 0 19 (as := []) (rest := [.int (f_238 143 M1)]) rfl (by decide) (by decide +kernel) rfl rfl H
        replace H := pUseF (f_238_ok hS (show pK 10 19 = true by decide +kernel) hc) H
        replace H := pRun (ls' := [.ref 0, .int p1, .int p2, .int p3, .int p4, .ref 19, .ref 143]) (st' := [.int ((f_238 143 M1) - (f_238 19 M1))]) 1 rfl H
        exact pG_ret (pRetI H)
      refine pG_neg g10 ?_
      by_cases g11 : p4 = kI 6
      · refine pG_pos g11 ?_
        obtain ⟨g0, _, H⟩ := pTsC g11 (by decide) (n1 := 10) rfl (mcb_17 rfl) H
        replace H := pRun (ls' := [.ref 0, .int p1, .int p2, .int p3, .int p4, .ref 19, .ref 143]) (st' := [.ref 143]) 1 rfl H
        replace H := pGetN (v := M1 143 4) rfl (by decide) H
        replace H := pRun (ls' := [.ref 0, .int p1, .int p2, .int p3, .int p4, .ref 19, .ref 143]) (st' := [.ref 19, .int (M1 143 4)]) 1 rfl H
        replace H := pGetN (v := M1 19 4) rfl (by decide) H
        replace H := pRun (ls' := [.ref 0, .int p1, .int p2, .int p3, .int p4, .ref 19, .ref 143]) (st' := [.int ((M1 143 4) - (M1 19 4))]) 1 rfl H
        exact pG_ret (pRetI H)
      refine pG_neg g11 ?_
      obtain ⟨g0, _, H⟩ := pTsD (n1 := 11) (fun v h1 h2 => by
    have hv : v = 0 ∨ v = 1 ∨ v = 2 ∨ v = 3 ∨ v = 4 ∨ v = 5 ∨ v = 6 := by omega
    rcases hv with rfl | rfl | rfl | rfl | rfl | rfl | rfl
    · exact g5
    · exact g6
    · exact g7
    · exact g8
    · exact g9
    · exact g10
    · exact g11) rfl (mcb_17 rfl) H
      replace H := pRun (ls' := [.ref 0, .int p1, .int p2, .int p3, .int p4, .ref 19, .ref 143]) (st' := [.int (kI (-100))]) 1 rfl H
      exact pG_ret (pRetI H)
    · refine pG_neg (c := ¬ (f_33 p2) = 0) g2 ?_
      replace H := pRun (ls' := [.ref 0, .int p1, .int p2, .int p3, .int p4, aD, aD]) (st' := [.int (kI (-100))]) 1 rfl H
      exact pG_ret (pRetI H)
def l_17 : List (Nat × Nat) := [(143, 0), (143, 1), (143, 2), (143, 3), (143, 4), (143, 5), (143, 6), (143, 7), (143, 8), (143, 9), (143, 10), (143, 11), (144, 999), (145, 999), (146, 999), (147, 999), (138, 2), (138, 3)]
theorem F_17 {p1 : Int32} {p2 : Int32} {p3 : Int32} {p4 : Int32} {M : pMem} {v : Int32} {N : pMem} (h : D_17 p1 p2 p3 p4 M v N) : pFr (l_17) M N :=
  (show pTf (l_17) M (D_17 p1 p2 p3 p4 M) from (tf_if (tf_ret pFr_refl) (tf_if (tf_gd fun g3 => (tf_gd fun g4 => (tf_call pFr_refl (fun _ _ h => F_208 (pArK (show pAr 25 4 37 11 3 = true by decide +kernel) (by decide) g3) (pArK (show pAr 24 4 30 11 2 = true by decide +kernel) (by decide) g4) h) [0, 1, 2, 3, 4, 5, 6, 7, 8, 9, 10, 11, 12, 13, 14, 15, 16, 17] rfl fun _ M1 f1 => (tf_if (tf_ret f1) (tf_if (tf_ret f1) (tf_if (tf_call f1 (fun _ _ h => F_230 (show pK 10 143 = true by decide +kernel) h) [] rfl fun _ M2 f2 => (tf_ret f2)) (tf_if (tf_ret f1) (tf_if (tf_ret f1) (tf_if (tf_ret f1) (tf_if (tf_ret f1) (tf_ret f1))))))))))) (tf_ret pFr_refl)))) v N h
/-- TwoCamps.least(II)I -/
def D_18 (p1 : Int32) (p2 : Int32) (M : pMem) : pT Int32 := tIf ((f_33 p1) = 0) (tRet (kI (-1)) M) (tIf (p2 < 0) (tRet (kI (-1)) M) (tIf (p2 ≤ (kI 9)) (tGd (pIn p1 4) <| tCall (D_209 (30 + 11 * ix p1) p2 M) fun v1 M1 => tRet v1 M1) (tRet (kI (-1)) M)))
theorem D_18_ok {X : aX} {F d : Nat} {K : Nat → aK} (hS : pS K) {p1 : Int32} {p2 : Int32} {M : pMem} {out : Option Value × aH} (H : aM X F d 18 [.ref 0, .int p1, .int p2] (pH K M) = some out) : pG eI K out (D_18 p1 p2 M) := by
  obtain ⟨d', g0, _, H⟩ := pEnt (n := 3) (ls := [.ref 0, .int p1, .int p2]) (mcb_18 rfl) (by decide +kernel) rfl H
  unfold D_18
  replace H := pRun (ls' := [.ref 0, .int p1, .int p2]) (st' := [.int p1]) 1 rfl H
  obtain ⟨rv, h1, hc, H⟩ := pCalT 33 1 (as := [.int p1]) (rest := []) rfl (by decide) (by decide +kernel) rfl rfl H
  replace H := pUseF (f_33_ok hS hc) H
  rcases pIf0 (n1 := 3) rfl (mcb_18 rfl) (mcb_18 rfl) H with ⟨g1, g0, _, H⟩ | ⟨g1, g0, _, H⟩
  · refine pG_pos (c := (f_33 p1) = 0) g1 ?_
    replace H := pRun (ls' := [.ref 0, .int p1, .int p2]) (st' := [.int (kI (-1))]) 1 rfl H
    exact pG_ret (pRetI H)
  · refine pG_neg (c := (f_33 p1) = 0) g1 ?_
    replace H := pRun (ls' := [.ref 0, .int p1, .int p2]) (st' := [.int p2]) 1 rfl H
    rcases pIf0 (n1 := 3) rfl (mcb_18 rfl) (mcb_18 rfl) H with ⟨g2, g0, _, H⟩ | ⟨g2, g0, _, H⟩
    · refine pG_pos (c := p2 < 0) g2 ?_
      replace H := pRun (ls' := [.ref 0, .int p1, .int p2]) (st' := [.int (kI (-1))]) 1 rfl H
      exact pG_ret (pRetI H)
    · refine pG_neg (c := p2 < 0) g2 ?_
      replace H := pRun (ls' := [.ref 0, .int p1, .int p2]) (st' := [.int (kI 9), .int p2]) 2 rfl H
      rcases pIfc (n1 := 4) rfl (mcb_18 rfl) (mcb_18 rfl) H with ⟨g3, g0, _, H⟩ | ⟨g3, g0, _, H⟩
      · refine pG_pos (c := p2 ≤ (kI 9)) g3 ?_
        replace H := pRun (ls' := [.ref 0, .int p1, .int p2]) (st' := [.ref 0]) 1 rfl H
        replace H := pGetR (r := 138) (pRf hS (by decide +kernel)) rfl H
        replace H := pRun (ls' := [.ref 0, .int p1, .int p2]) (st' := [.ref 0, .ref 138]) 1 rfl H
        replace H := pGetR (r := 18) (pRf hS (by decide +kernel)) rfl H
        replace H := pRun (ls' := [.ref 0, .int p1, .int p2]) (st' := [.ref 0, .ref 18, .ref 138]) 1 rfl H
        replace H := pGetR (r := 18) (pRf hS (by decide +kernel)) rfl H
        replace H := pGetR (r := 24) (pRf hS (by decide +kernel)) rfl H
        replace H := pRun (ls' := [.ref 0, .int p1, .int p2]) (st' := [.int p1, .ref 24, .ref 18, .ref 138]) 1 rfl H
        obtain ⟨g4, H⟩ := pAld (n := 4) (r := 30 + 11 * ix p1) (pArL hS (show pAr 24 4 30 11 2 = true by decide +kernel)) (fun h => pArR hS (show pAr 24 4 30 11 2 = true by decide +kernel) h) H
        refine pG_gd g4 ?_
        replace H := pRun (ls' := [.ref 0, .int p1, .int p2]) (st' := [.int p2, .ref (30 + 11 * ix p1), .ref 18, .ref 138]) 1 rfl H
        obtain ⟨rv, h1, hc, H⟩ := pCalV 209 3 138 (as := [.ref 18, .ref (30 + 11 * ix p1), .int p2]) (rest := []) rfl (by decide) (by decide +kernel) rfl rfl H
        obtain ⟨v1, M1, hD, H⟩ := pUseI (D_209_ok hS (pArK (show pAr 24 4 30 11 2 = true by decide +kernel) (by decide) g4) hc) H
        refine pG_call (x := v1) (M1 := M1) hD ?_
        exact pG_ret (pRetI H)
      · refine pG_neg (c := p2 ≤ (kI 9)) g3 ?_
        replace H := pRun (ls' := [.ref 0, .int p1, .int p2]) (st' := [.int (kI (-1))]) 1 rfl H
        exact pG_ret (pRetI H)
def l_18 : List (Nat × Nat) := [(143, 0), (143, 1), (143, 2), (143, 3), (143, 4), (143, 5), (143, 6), (143, 7), (143, 8), (143, 9), (143, 10), (143, 11), (144, 999), (145, 999), (146, 999), (147, 999)]
theorem F_18 {p1 : Int32} {p2 : Int32} {M : pMem} {v : Int32} {N : pMem} (h : D_18 p1 p2 M v N) : pFr (l_18) M N :=
  (show pTf (l_18) M (D_18 p1 p2 M) from (tf_if (tf_ret pFr_refl) (tf_if (tf_ret pFr_refl) (tf_if (tf_gd fun g4 => (tf_call pFr_refl (fun _ _ h => F_209 (pArK (show pAr 24 4 30 11 2 = true by decide +kernel) (by decide) g4) h) [0, 1, 2, 3, 4, 5, 6, 7, 8, 9, 10, 11, 12, 13, 14, 15] rfl fun _ M1 f1 => (tf_ret f1))) (tf_ret pFr_refl))))) v N h
/-- TwoCamps.back(I)I -/
def D_19 (p1 : Int32) (M : pMem) : pT Int32 := tIf ((f_33 p1) = 0) (tRet (kI (-1)) M) (tGd (pIn p1 4) <| tCall (D_210 (30 + 11 * ix p1) M) fun v1 M1 => tRet v1 M1)
theorem D_19_ok {X : aX} {F d : Nat} {K : Nat → aK} (hS : pS K) {p1 : Int32} {M : pMem} {out : Option Value × aH} (H : aM X F d 19 [.ref 0, .int p1] (pH K M) = some out) : pG eI K out (D_19 p1 M) := by
  obtain ⟨d', g0, _, H⟩ := pEnt (n := 2) (ls := [.ref 0, .int p1]) (mcb_19 rfl) (by decide +kernel) rfl H
  unfold D_19
  replace H := pRun (ls' := [.ref 0, .int p1]) (st' := [.int p1]) 1 rfl H
  obtain ⟨rv, h1, hc, H⟩ := pCalT 33 1 (as := [.int p1]) (rest := []) rfl (by decide) (by decide +kernel) rfl rfl H
  replace H := pUseF (f_33_ok hS hc) H
  rcases pIf0 (n1 := 2) rfl (mcb_19 rfl) (mcb_19 rfl) H with ⟨g1, g0, _, H⟩ | ⟨g1, g0, _, H⟩
  · refine pG_pos (c := (f_33 p1) = 0) g1 ?_
    replace H := pRun (ls' := [.ref 0, .int p1]) (st' := [.int (kI (-1))]) 1 rfl H
    obtain ⟨g0, _, H⟩ := pFall (mcb_19 rfl) H
    exact pG_ret (pRetI H)
  · refine pG_neg (c := (f_33 p1) = 0) g1 ?_
    replace H := pRun (ls' := [.ref 0, .int p1]) (st' := [.ref 0]) 1 rfl H
    replace H := pGetR (r := 138) (pRf hS (by decide +kernel)) rfl H
    replace H := pRun (ls' := [.ref 0, .int p1]) (st' := [.ref 0, .ref 138]) 1 rfl H
    replace H := pGetR (r := 18) (pRf hS (by decide +kernel)) rfl H
    replace H := pRun (ls' := [.ref 0, .int p1]) (st' := [.ref 0, .ref 18, .ref 138]) 1 rfl H
    replace H := pGetR (r := 18) (pRf hS (by decide +kernel)) rfl H
    replace H := pGetR (r := 24) (pRf hS (by decide +kernel)) rfl H
    replace H := pRun (ls' := [.ref 0, .int p1]) (st' := [.int p1, .ref 24, .ref 18, .ref 138]) 1 rfl H
    obtain ⟨g2, H⟩ := pAld (n := 4) (r := 30 + 11 * ix p1) (pArL hS (show pAr 24 4 30 11 2 = true by decide +kernel)) (fun h => pArR hS (show pAr 24 4 30 11 2 = true by decide +kernel) h) H
    refine pG_gd g2 ?_
    obtain ⟨rv, h1, hc, H⟩ := pCalV 210 2 138 (as := [.ref 18, .ref (30 + 11 * ix p1)]) (rest := []) rfl (by decide) (by decide +kernel) rfl rfl H
    obtain ⟨v1, M1, hD, H⟩ := pUseI (D_210_ok hS (pArK (show pAr 24 4 30 11 2 = true by decide +kernel) (by decide) g2) hc) H
    refine pG_call (x := v1) (M1 := M1) hD ?_
    obtain ⟨g0, _, H⟩ := pGo (n1 := 3) rfl (mcb_19 rfl) H
    exact pG_ret (pRetI H)
def l_19 : List (Nat × Nat) := [(143, 0), (143, 1), (143, 2), (143, 3), (143, 4), (143, 5), (143, 6), (143, 7), (143, 8), (143, 9), (143, 10), (143, 11), (144, 999), (145, 999), (146, 999), (147, 999)]
theorem F_19 {p1 : Int32} {M : pMem} {v : Int32} {N : pMem} (h : D_19 p1 M v N) : pFr (l_19) M N :=
  (show pTf (l_19) M (D_19 p1 M) from (tf_if (tf_ret pFr_refl) (tf_gd fun g2 => (tf_call pFr_refl (fun _ _ h => F_210 (pArK (show pAr 24 4 30 11 2 = true by decide +kernel) (by decide) g2) h) [0, 1, 2, 3, 4, 5, 6, 7, 8, 9, 10, 11, 12, 13, 14, 15] rfl fun _ M1 f1 => (tf_ret f1))))) v N h
/-- TwoCamps.row(I)I -/
def D_20 (p1 : Int32) (M : pMem) : pT Int32 := tIf (¬ p1 = (kI (-1))) (tIf ((f_34 p1) = 0) (tRet (kI (-2)) M) (tIf ((M 18 8) < (kI 5)) (tGd (pIn (M 18 8) 5) <| tPut (aPut M 27 (ix (M 18 8)) p1) fun M1 => tPut (aPut M1 18 8 ((M1 18 8) + (kI 1))) fun M2 => tRet (M2 18 8) M2) (tRet (kI (-2)) M))) (tPut (aPut M 18 8 (kI 0)) fun M1 => tRet (kI 0) M1)
theorem D_20_ok {X : aX} {F d : Nat} {K : Nat → aK} (hS : pS K) {p1 : Int32} {M : pMem} {out : Option Value × aH} (H : aM X F d 20 [.ref 0, .int p1] (pH K M) = some out) : pG eI K out (D_20 p1 M) := by
  obtain ⟨d', g0, _, H⟩ := pEnt (n := 2) (ls := [.ref 0, .int p1]) (mcb_20 rfl) (by decide +kernel) rfl H
  unfold D_20
  replace H := pRun (ls' := [.ref 0, .int p1]) (st' := [.int (kI (-1)), .int p1]) 2 rfl H
  rcases pIfc (n1 := 2) rfl (mcb_20 rfl) (mcb_20 rfl) H with ⟨g1, g0, _, H⟩ | ⟨g1, g0, _, H⟩
  · refine pG_pos (c := ¬ p1 = (kI (-1))) g1 ?_
    replace H := pRun (ls' := [.ref 0, .int p1]) (st' := [.int p1]) 1 rfl H
    obtain ⟨rv, h1, hc, H⟩ := pCalT 34 1 (as := [.int p1]) (rest := []) rfl (by decide) (by decide +kernel) rfl rfl H
    replace H := pUseF (f_34_ok hS hc) H
    rcases pIf0 (n1 := 4) rfl (mcb_20 rfl) (mcb_20 rfl) H with ⟨g2, g0, _, H⟩ | ⟨g2, g0, _, H⟩
    · refine pG_pos (c := (f_34 p1) = 0) g2 ?_
      replace H := pRun (ls' := [.ref 0, .int p1]) (st' := [.int (kI (-2))]) 1 rfl H
      exact pG_ret (pRetI H)
    · refine pG_neg (c := (f_34 p1) = 0) g2 ?_
      replace H := pRun (ls' := [.ref 0, .int p1]) (st' := [.ref 0]) 1 rfl H
      replace H := pGetR (r := 18) (pRf hS (by decide +kernel)) rfl H
      replace H := pGetN (v := M 18 8) rfl (by decide) H
      replace H := pRun (ls' := [.ref 0, .int p1]) (st' := [.int (kI 5), .int (M 18 8)]) 1 rfl H
      rcases pIfc (n1 := 5) rfl (mcb_20 rfl) (mcb_20 rfl) H with ⟨g3, g0, _, H⟩ | ⟨g3, g0, _, H⟩
      · refine pG_pos (c := (M 18 8) < (kI 5)) g3 ?_
        replace H := pRun (ls' := [.ref 0, .int p1]) (st' := [.ref 0]) 1 rfl H
        replace H := pGetR (r := 18) (pRf hS (by decide +kernel)) rfl H
        replace H := pGetR (r := 27) (pRf hS (by decide +kernel)) rfl H
        replace H := pRun (ls' := [.ref 0, .int p1]) (st' := [.ref 0, .ref 27]) 1 rfl H
        replace H := pGetR (r := 18) (pRf hS (by decide +kernel)) rfl H
        replace H := pGetN (v := M 18 8) rfl (by decide) H
        replace H := pRun (ls' := [.ref 0, .int p1]) (st' := [.int p1, .int (M 18 8), .ref 27]) 1 rfl H
        obtain ⟨g4, M1, eM1, H⟩ := pIst (n := 5) (pLn hS (show pCa 27 5 = true by decide +kernel)) H
        refine pG_gd g4 (pG_put (M2 := M1) eM1 ?_)
        replace H := pRun (ls' := [.ref 0, .int p1]) (st' := [.ref 0]) 1 rfl H
        replace H := pGetR (r := 18) (pRf hS (by decide +kernel)) rfl H
        replace H := pRun (ls' := [.ref 0, .int p1]) (st' := [.ref 18, .ref 18]) 1 rfl H
        replace H := pGetN (v := M1 18 8) rfl (by decide) H
        replace H := pRun (ls' := [.ref 0, .int p1]) (st' := [.int ((M1 18 8) + (kI 1)), .ref 18]) 2 rfl H
        obtain ⟨M2, eM2, H⟩ := pPutN (j := 8) rfl H
        refine pG_put (M2 := M2) eM2 ?_
        replace H := pRun (ls' := [.ref 0, .int p1]) (st' := [.ref 0]) 1 rfl H
        replace H := pGetR (r := 18) (pRf hS (by decide +kernel)) rfl H
        replace H := pGetN (v := M2 18 8) rfl (by decide) H
        exact pG_ret (pRetI H)
      · refine pG_neg (c := (M 18 8) < (kI 5)) g3 ?_
        replace H := pRun (ls' := [.ref 0, .int p1]) (st' := [.int (kI (-2))]) 1 rfl H
        exact pG_ret (pRetI H)
  · refine pG_neg (c := ¬ p1 = (kI (-1))) g1 ?_
    replace H := pRun (ls' := [.ref 0, .int p1]) (st' := [.ref 0]) 1 rfl H
    replace H := pGetR (r := 18) (pRf hS (by decide +kernel)) rfl H
    replace H := pRun (ls' := [.ref 0, .int p1]) (st' := [.int (kI 0), .ref 18]) 1 rfl H
    obtain ⟨M1, eM1, H⟩ := pPutN (j := 8) rfl H
    refine pG_put (M2 := M1) eM1 ?_
    replace H := pRun (ls' := [.ref 0, .int p1]) (st' := [.int (kI 0)]) 1 rfl H
    exact pG_ret (pRetI H)
def l_20 : List (Nat × Nat) := [(27, 999), (18, 8)]
theorem F_20 {p1 : Int32} {M : pMem} {v : Int32} {N : pMem} (h : D_20 p1 M v N) : pFr (l_20) M N :=
  (show pTf (l_20) M (D_20 p1 M) from (tf_if (tf_if (tf_ret pFr_refl) (tf_if (tf_gd fun g4 => (tf_putA pFr_refl 0 rfl fun M1 f1 => (tf_put f1 1 rfl fun M2 f2 => (tf_ret f2)))) (tf_ret pFr_refl))) (tf_put pFr_refl 1 rfl fun M1 f1 => (tf_ret f1)))) v N h
/-- TwoCamps.parts(III)I -/
def D_21 (p1 : Int32) (p2 : Int32) (p3 : Int32) (M : pMem) : pT Int32 := tIf ((f_33 p1) = 0) (tRet (kI (-1)) M) (tIf ((f_33 p2) = 0) (tRet (kI (-1)) M) (tIf (p3 < 0) (tRet (kI (-1)) M) (tIf (p3 ≤ (M 18 8)) (tCall (D_211 M) fun _ M1 => tGd (pIn p1 4) <| tCall (D_213 (30 + 11 * ix p1) (kI 0) (kI 0) M1) fun _ M2 => tCall (D_212 M2) fun _ M3 => tGd (pIn p2 4) <| tCall (D_213 (30 + 11 * ix p2) (kI 0) (kI 0) M3) fun _ M4 => tIf (¬ p3 = 0) (tGd (pIn (p3 - (kI 1)) 5) <| tRet (M4 141 (ix (p3 - (kI 1)))) M4) (tRet (M4 138 8) M4)) (tRet (kI (-1)) M))))
theorem D_21_ok {X : aX} {F d : Nat} {K : Nat → aK} (hS : pS K) {p1 : Int32} {p2 : Int32} {p3 : Int32} {M : pMem} {out : Option Value × aH} (H : aM X F d 21 [.ref 0, .int p1, .int p2, .int p3] (pH K M) = some out) : pG eI K out (D_21 p1 p2 p3 M) := by
  obtain ⟨d', g0, _, H⟩ := pEnt (n := 4) (ls := [.ref 0, .int p1, .int p2, .int p3]) (mcb_21 rfl) (by decide +kernel) rfl H
  unfold D_21
  replace H := pRun (ls' := [.ref 0, .int p1, .int p2, .int p3]) (st' := [.int p1]) 1 rfl H
  obtain ⟨rv, h1, hc, H⟩ := pCalT 33 1 (as := [.int p1]) (rest := []) rfl (by decide) (by decide +kernel) rfl rfl H
  replace H := pUseF (f_33_ok hS hc) H
  rcases pIf0 (n1 := 4) rfl (mcb_21 rfl) (mcb_21 rfl) H with ⟨g1, g0, _, H⟩ | ⟨g1, g0, _, H⟩
  · refine pG_pos (c := (f_33 p1) = 0) g1 ?_
    replace H := pRun (ls' := [.ref 0, .int p1, .int p2, .int p3]) (st' := [.int (kI (-1))]) 1 rfl H
    exact pG_ret (pRetI H)
  · refine pG_neg (c := (f_33 p1) = 0) g1 ?_
    replace H := pRun (ls' := [.ref 0, .int p1, .int p2, .int p3]) (st' := [.int p2]) 1 rfl H
    obtain ⟨rv, h1, hc, H⟩ := pCalT 33 1 (as := [.int p2]) (rest := []) rfl (by decide) (by decide +kernel) rfl rfl H
    replace H := pUseF (f_33_ok hS hc) H
    rcases pIf0 (n1 := 4) rfl (mcb_21 rfl) (mcb_21 rfl) H with ⟨g2, g0, _, H⟩ | ⟨g2, g0, _, H⟩
    · refine pG_pos (c := (f_33 p2) = 0) g2 ?_
      replace H := pRun (ls' := [.ref 0, .int p1, .int p2, .int p3]) (st' := [.int (kI (-1))]) 1 rfl H
      exact pG_ret (pRetI H)
    · refine pG_neg (c := (f_33 p2) = 0) g2 ?_
      replace H := pRun (ls' := [.ref 0, .int p1, .int p2, .int p3]) (st' := [.int p3]) 1 rfl H
      rcases pIf0 (n1 := 4) rfl (mcb_21 rfl) (mcb_21 rfl) H with ⟨g3, g0, _, H⟩ | ⟨g3, g0, _, H⟩
      · refine pG_pos (c := p3 < 0) g3 ?_
        replace H := pRun (ls' := [.ref 0, .int p1, .int p2, .int p3]) (st' := [.int (kI (-1))]) 1 rfl H
        exact pG_ret (pRetI H)
      · refine pG_neg (c := p3 < 0) g3 ?_
        replace H := pRun (ls' := [.ref 0, .int p1, .int p2, .int p3]) (st' := [.ref 0, .int p3]) 2 rfl H
        replace H := pGetR (r := 18) (pRf hS (by decide +kernel)) rfl H
        replace H := pGetN (v := M 18 8) rfl (by decide) H
        rcases pIfc (n1 := 5) rfl (mcb_21 rfl) (mcb_21 rfl) H with ⟨g4, g0, _, H⟩ | ⟨g4, g0, _, H⟩
        · refine pG_pos (c := p3 ≤ (M 18 8)) g4 ?_
          replace H := pRun (ls' := [.ref 0, .int p1, .int p2, .int p3]) (st' := [.ref 0]) 1 rfl H
          replace H := pGetR (r := 138) (pRf hS (by decide +kernel)) rfl H
          replace H := pRun (ls' := [.ref 0, .int p1, .int p2, .int p3]) (st' := [.ref 0, .ref 138]) 1 rfl H
          replace H := pGetR (r := 18) (pRf hS (by decide +kernel)) rfl H
          obtain ⟨rv, h1, hc, H⟩ := pCalV 211 1 138 (as := [.ref 18]) (rest := []) rfl (by decide) (by decide +kernel) rfl rfl H
          obtain ⟨v1, M1, hD, H⟩ := pUseU (D_211_ok hS hc) H
          refine pG_call (x := v1) (M1 := M1) hD ?_
          replace H := pRun (ls' := [.ref 0, .int p1, .int p2, .int p3]) (st' := [.ref 0]) 1 rfl H
          replace H := pGetR (r := 138) (pRf hS (by decide +kernel)) rfl H
          replace H := pRun (ls' := [.ref 0, .int p1, .int p2, .int p3]) (st' := [.ref 0, .ref 138]) 1 rfl H
          replace H := pGetR (r := 18) (pRf hS (by decide +kernel)) rfl H
          replace H := pRun (ls' := [.ref 0, .int p1, .int p2, .int p3]) (st' := [.ref 0, .ref 18, .ref 138]) 1 rfl H
          replace H := pGetR (r := 18) (pRf hS (by decide +kernel)) rfl H
          replace H := pGetR (r := 24) (pRf hS (by decide +kernel)) rfl H
          replace H := pRun (ls' := [.ref 0, .int p1, .int p2, .int p3]) (st' := [.int p1, .ref 24, .ref 18, .ref 138]) 1 rfl H
          obtain ⟨g5, H⟩ := pAld (n := 4) (r := 30 + 11 * ix p1) (pArL hS (show pAr 24 4 30 11 2 = true by decide +kernel)) (fun h => pArR hS (show pAr 24 4 30 11 2 = true by decide +kernel) h) H
          refine pG_gd g5 ?_
          replace H := pRun (ls' := [.ref 0, .int p1, .int p2, .int p3]) (st' := [.int (kI 0), .int (kI 0), .ref (30 + 11 * ix p1), .ref 18, .ref 138]) 2 rfl H
          obtain ⟨rv, h1, hc, H⟩ := pCalT 213 5 (as := [.ref 138, .ref 18, .ref (30 + 11 * ix p1), .int (kI 0), .int (kI 0)]) (rest := []) rfl (by decide) (by decide +kernel) rfl rfl H
          obtain ⟨v2, M2, hD, H⟩ := pUseU (D_213_ok hS (pArK (show pAr 24 4 30 11 2 = true by decide +kernel) (by decide) g5) hc) H
          refine pG_call (x := v2) (M1 := M2) hD ?_
          replace H := pRun (ls' := [.ref 0, .int p1, .int p2, .int p3]) (st' := [.ref 0]) 1 rfl H
          replace H := pGetR (r := 138) (pRf hS (by decide +kernel)) rfl H
          obtain ⟨rv, h1, hc, H⟩ := pCalV 212 0 138 (as := []) (rest := []) rfl (by decide) (by decide +kernel) rfl rfl H
          obtain ⟨v3, M3, hD, H⟩ := pUseU (D_212_ok hS hc) H
          refine pG_call (x := v3) (M1 := M3) hD ?_
          replace H := pRun (ls' := [.ref 0, .int p1, .int p2, .int p3]) (st' := [.ref 0]) 1 rfl H
          replace H := pGetR (r := 138) (pRf hS (by decide +kernel)) rfl H
          replace H := pRun (ls' := [.ref 0, .int p1, .int p2, .int p3]) (st' := [.ref 0, .ref 138]) 1 rfl H
          replace H := pGetR (r := 18) (pRf hS (by decide +kernel)) rfl H
          replace H := pRun (ls' := [.ref 0, .int p1, .int p2, .int p3]) (st' := [.ref 0, .ref 18, .ref 138]) 1 rfl H
          replace H := pGetR (r := 18) (pRf hS (by decide +kernel)) rfl H
          replace H := pGetR (r := 24) (pRf hS (by decide +kernel)) rfl H
          replace H := pRun (ls' := [.ref 0, .int p1, .int p2, .int p3]) (st' := [.int p2, .ref 24, .ref 18, .ref 138]) 1 rfl H
          obtain ⟨g6, H⟩ := pAld (n := 4) (r := 30 + 11 * ix p2) (pArL hS (show pAr 24 4 30 11 2 = true by decide +kernel)) (fun h => pArR hS (show pAr 24 4 30 11 2 = true by decide +kernel) h) H
          refine pG_gd g6 ?_
          replace H := pRun (ls' := [.ref 0, .int p1, .int p2, .int p3]) (st' := [.int (kI 0), .int (kI 0), .ref (30 + 11 * ix p2), .ref 18, .ref 138]) 2 rfl H
          obtain ⟨rv, h1, hc, H⟩ := pCalT 213 5 (as := [.ref 138, .ref 18, .ref (30 + 11 * ix p2), .int (kI 0), .int (kI 0)]) (rest := []) rfl (by decide) (by decide +kernel) rfl rfl H
          obtain ⟨v4, M4, hD, H⟩ := pUseU (D_213_ok hS (pArK (show pAr 24 4 30 11 2 = true by decide +kernel) (by decide) g6) hc) H
          refine pG_call (x := v4) (M1 := M4) hD ?_
          replace H := pRun (ls' := [.ref 0, .int p1, .int p2, .int p3]) (st' := [.int p3]) 1 rfl H
          rcases pIf0 (n1 := 7) rfl (mcb_21 rfl) (mcb_21 rfl) H with ⟨g7, g0, _, H⟩ | ⟨g7, g0, _, H⟩
          · refine pG_pos (c := ¬ p3 = 0) g7 ?_
            replace H := pRun (ls' := [.ref 0, .int p1, .int p2, .int p3]) (st' := [.ref 0]) 1 rfl H
            replace H := pGetR (r := 138) (pRf hS (by decide +kernel)) rfl H
            replace H := pGetR (r := 141) (pRf hS (by decide +kernel)) rfl H
            replace H := pRun (ls' := [.ref 0, .int p1, .int p2, .int p3]) (st' := [.int (p3 - (kI 1)), .ref 141]) 3 rfl H
            obtain ⟨g8, H⟩ := pIld (n := 5) (pLt (show pCa 141 5 = true by decide +kernel)) (pLn hS (show pCa 141 5 = true by decide +kernel)) H
            refine pG_gd g8 ?_
            obtain ⟨g0, _, H⟩ := pFall (mcb_21 rfl) H
            exact pG_ret (pRetI H)
          · refine pG_neg (c := ¬ p3 = 0) g7 ?_
            replace H := pRun (ls' := [.ref 0, .int p1, .int p2, .int p3]) (st' := [.ref 0]) 1 rfl H
            replace H := pGetR (r := 138) (pRf hS (by decide +kernel)) rfl H
            replace H := pGetN (v := M4 138 8) rfl (by decide) H
            obtain ⟨g0, _, H⟩ := pGo (n1 := 8) rfl (mcb_21 rfl) H
            exact pG_ret (pRetI H)
        · refine pG_neg (c := p3 ≤ (M 18 8)) g4 ?_
          replace H := pRun (ls' := [.ref 0, .int p1, .int p2, .int p3]) (st' := [.int (kI (-1))]) 1 rfl H
          exact pG_ret (pRetI H)
/-- TwoCamps.told(II)Z -/
def D_22 (p1 : Int32) (p2 : Int32) (M : pMem) : pT Int32 := tIf (p1 < (kI 1)) (tRet (kI 0) M) (tIf ((kI 24) < p1) (tRet (kI 0) M) (tIf (¬ (f_35 p2) = 0) (tGd (pIn (p1 - (kI 1)) 24) <| tPut (aPut M 28 (ix (p1 - (kI 1))) p2) fun M1 => tRet (kI 1) M1) (tIf (p2 = (kI (-100))) (tGd (pIn (p1 - (kI 1)) 24) <| tPut (aPut M 28 (ix (p1 - (kI 1))) p2) fun M1 => tRet (kI 1) M1) (tRet (kI 0) M))))
theorem D_22_ok {X : aX} {F d : Nat} {K : Nat → aK} (hS : pS K) {p1 : Int32} {p2 : Int32} {M : pMem} {out : Option Value × aH} (H : aM X F d 22 [.ref 0, .int p1, .int p2] (pH K M) = some out) : pG eI K out (D_22 p1 p2 M) := by
  obtain ⟨d', g0, _, H⟩ := pEnt (n := 3) (ls := [.ref 0, .int p1, .int p2]) (mcb_22 rfl) (by decide +kernel) rfl H
  unfold D_22
  replace H := pRun (ls' := [.ref 0, .int p1, .int p2]) (st' := [.int (kI 1), .int p1]) 2 rfl H
  rcases pIfc (n1 := 4) rfl (mcb_22 rfl) (mcb_22 rfl) H with ⟨g1, g0, _, H⟩ | ⟨g1, g0, _, H⟩
  · refine pG_pos (c := p1 < (kI 1)) g1 ?_
    replace H := pRun (ls' := [.ref 0, .int p1, .int p2]) (st' := [.int (kI 0)]) 1 rfl H
    exact pG_ret (pRetI H)
  · refine pG_neg (c := p1 < (kI 1)) g1 ?_
    replace H := pRun (ls' := [.ref 0, .int p1, .int p2]) (st' := [.int (kI 24), .int p1]) 2 rfl H
    rcases pIfc (n1 := 4) rfl (mcb_22 rfl) (mcb_22 rfl) H with ⟨g2, g0, _, H⟩ | ⟨g2, g0, _, H⟩
    · refine pG_pos (c := (kI 24) < p1) g2 ?_
      replace H := pRun (ls' := [.ref 0, .int p1, .int p2]) (st' := [.int (kI 0)]) 1 rfl H
      exact pG_ret (pRetI H)
    · refine pG_neg (c := (kI 24) < p1) g2 ?_
      replace H := pRun (ls' := [.ref 0, .int p1, .int p2]) (st' := [.int p2]) 1 rfl H
      obtain ⟨rv, h1, hc, H⟩ := pCalT 35 1 (as := [.int p2]) (rest := []) rfl (by decide) (by decide +kernel) rfl rfl H
      replace H := pUseF (f_35_ok hS hc) H
      rcases pIf0 (n1 := 5) rfl (mcb_22 rfl) (mcb_22 rfl) H with ⟨g3, g0, _, H⟩ | ⟨g3, g0, _, H⟩
      · refine pG_pos (c := ¬ (f_35 p2) = 0) g3 ?_
        replace H := pRun (ls' := [.ref 0, .int p1, .int p2]) (st' := [.ref 0]) 1 rfl H
        replace H := pGetR (r := 18) (pRf hS (by decide +kernel)) rfl H
        replace H := pGetR (r := 28) (pRf hS (by decide +kernel)) rfl H
        replace H := pRun (ls' := [.ref 0, .int p1, .int p2]) (st' := [.int p2, .int (p1 - (kI 1)), .ref 28]) 4 rfl H
        obtain ⟨g4, M1, eM1, H⟩ := pIst (n := 24) (pLn hS (show pCa 28 24 = true by decide +kernel)) H
        refine pG_gd g4 (pG_put (M2 := M1) eM1 ?_)
        replace H := pRun (ls' := [.ref 0, .int p1, .int p2]) (st' := [.int (kI 1)]) 1 rfl H
        exact pG_ret (pRetI H)
      · refine pG_neg (c := ¬ (f_35 p2) = 0) g3 ?_
        replace H := pRun (ls' := [.ref 0, .int p1, .int p2]) (st' := [.int (kI (-100)), .int p2]) 2 rfl H
        rcases pIfc (n1 := 5) rfl (mcb_22 rfl) (mcb_22 rfl) H with ⟨g4, g0, _, H⟩ | ⟨g4, g0, _, H⟩
        · refine pG_pos (c := p2 = (kI (-100))) g4 ?_
          replace H := pRun (ls' := [.ref 0, .int p1, .int p2]) (st' := [.ref 0]) 1 rfl H
          replace H := pGetR (r := 18) (pRf hS (by decide +kernel)) rfl H
          replace H := pGetR (r := 28) (pRf hS (by decide +kernel)) rfl H
          replace H := pRun (ls' := [.ref 0, .int p1, .int p2]) (st' := [.int p2, .int (p1 - (kI 1)), .ref 28]) 4 rfl H
          obtain ⟨g5, M1, eM1, H⟩ := pIst (n := 24) (pLn hS (show pCa 28 24 = true by decide +kernel)) H
          refine pG_gd g5 (pG_put (M2 := M1) eM1 ?_)
          replace H := pRun (ls' := [.ref 0, .int p1, .int p2]) (st' := [.int (kI 1)]) 1 rfl H
          exact pG_ret (pRetI H)
        · refine pG_neg (c := p2 = (kI (-100))) g4 ?_
          replace H := pRun (ls' := [.ref 0, .int p1, .int p2]) (st' := [.int (kI 0)]) 1 rfl H
          exact pG_ret (pRetI H)
def l_22 : List (Nat × Nat) := [(28, 999)]
theorem F_22 {p1 : Int32} {p2 : Int32} {M : pMem} {v : Int32} {N : pMem} (h : D_22 p1 p2 M v N) : pFr (l_22) M N :=
  (show pTf (l_22) M (D_22 p1 p2 M) from (tf_if (tf_ret pFr_refl) (tf_if (tf_ret pFr_refl) (tf_if (tf_gd fun g4 => (tf_putA pFr_refl 0 rfl fun M1 f1 => (tf_ret f1))) (tf_if (tf_gd fun g5 => (tf_putA pFr_refl 0 rfl fun M1 f1 => (tf_ret f1))) (tf_ret pFr_refl)))))) v N h
/-- TwoCamps.off(II)I -/
def D_23 (p1 : Int32) (p2 : Int32) (M : pMem) : pT Int32 := tIf ((f_33 p1) = 0) (tRet (kI (-1)) M) (tIf (¬ (f_33 p2) = 0) (tGd (pIn p1 4) <| tGd (pIn p2 4) <| tCall (D_208 (37 + 11 * ix p1) (30 + 11 * ix p2) (kI 1) M) fun _ M1 => tRet (M1 138 3) M1) (tRet (kI (-1)) M))
theorem D_23_ok {X : aX} {F d : Nat} {K : Nat → aK} (hS : pS K) {p1 : Int32} {p2 : Int32} {M : pMem} {out : Option Value × aH} (H : aM X F d 23 [.ref 0, .int p1, .int p2] (pH K M) = some out) : pG eI K out (D_23 p1 p2 M) := by
  obtain ⟨d', g0, _, H⟩ := pEnt (n := 3) (ls := [.ref 0, .int p1, .int p2]) (mcb_23 rfl) (by decide +kernel) rfl H
  unfold D_23
  replace H := pRun (ls' := [.ref 0, .int p1, .int p2]) (st' := [.int p1]) 1 rfl H
  obtain ⟨rv, h1, hc, H⟩ := pCalT 33 1 (as := [.int p1]) (rest := []) rfl (by decide) (by decide +kernel) rfl rfl H
  replace H := pUseF (f_33_ok hS hc) H
  rcases pIf0 (n1 := 2) rfl (mcb_23 rfl) (mcb_23 rfl) H with ⟨g1, g0, _, H⟩ | ⟨g1, g0, _, H⟩
  · refine pG_pos (c := (f_33 p1) = 0) g1 ?_
    replace H := pRun (ls' := [.ref 0, .int p1, .int p2]) (st' := [.int (kI (-1))]) 1 rfl H
    exact pG_ret (pRetI H)
  · refine pG_neg (c := (f_33 p1) = 0) g1 ?_
    replace H := pRun (ls' := [.ref 0, .int p1, .int p2]) (st' := [.int p2]) 1 rfl H
    obtain ⟨rv, h1, hc, H⟩ := pCalT 33 1 (as := [.int p2]) (rest := []) rfl (by decide) (by decide +kernel) rfl rfl H
    replace H := pUseF (f_33_ok hS hc) H
    rcases pIf0 (n1 := 3) rfl (mcb_23 rfl) (mcb_23 rfl) H with ⟨g2, g0, _, H⟩ | ⟨g2, g0, _, H⟩
    · refine pG_pos (c := ¬ (f_33 p2) = 0) g2 ?_
      replace H := pRun (ls' := [.ref 0, .int p1, .int p2]) (st' := [.ref 0]) 1 rfl H
      replace H := pGetR (r := 138) (pRf hS (by decide +kernel)) rfl H
      replace H := pRun (ls' := [.ref 0, .int p1, .int p2]) (st' := [.ref 0, .ref 138]) 1 rfl H
      replace H := pGetR (r := 18) (pRf hS (by decide +kernel)) rfl H
      replace H := pRun (ls' := [.ref 0, .int p1, .int p2]) (st' := [.ref 0, .ref 18, .ref 138]) 1 rfl H
      replace H := pGetR (r := 18) (pRf hS (by decide +kernel)) rfl H
      replace H := pGetR (r := 25) (pRf hS (by decide +kernel)) rfl H
      replace H := pRun (ls' := [.ref 0, .int p1, .int p2]) (st' := [.int p1, .ref 25, .ref 18, .ref 138]) 1 rfl H
      obtain ⟨g3, H⟩ := pAld (n := 4) (r := 37 + 11 * ix p1) (pArL hS (show pAr 25 4 37 11 3 = true by decide +kernel)) (fun h => pArR hS (show pAr 25 4 37 11 3 = true by decide +kernel) h) H
      refine pG_gd g3 ?_
      replace H := pRun (ls' := [.ref 0, .int p1, .int p2]) (st' := [.ref 0, .ref (37 + 11 * ix p1), .ref 18, .ref 138]) 1 rfl H
      replace H := pGetR (r := 18) (pRf hS (by decide +kernel)) rfl H
      replace H := pGetR (r := 24) (pRf hS (by decide +kernel)) rfl H
      replace H := pRun (ls' := [.ref 0, .int p1, .int p2]) (st' := [.int p2, .ref 24, .ref (37 + 11 * ix p1), .ref 18, .ref 138]) 1 rfl H
      obtain ⟨g4, H⟩ := pAld (n := 4) (r := 30 + 11 * ix p2) (pArL hS (show pAr 24 4 30 11 2 = true by decide +kernel)) (fun h => pArR hS (show pAr 24 4 30 11 2 = true by decide +kernel) h) H
      refine pG_gd g4 ?_
      replace H := pRun (ls' := [.ref 0, .int p1, .int p2]) (st' := [.int (kI 1), .ref (30 + 11 * ix p2), .ref (37 + 11 * ix p1), .ref 18, .ref 138]) 1 rfl H
      obtain ⟨rv, h1, hc, H⟩ := pCalV 208 4 138 (as := [.ref 18, .ref (37 + 11 * ix p1), .ref (30 + 11 * ix p2), .int (kI 1)]) (rest := []) rfl (by decide) (by decide +kernel) rfl rfl H
      obtain ⟨v1, M1, hD, H⟩ := pUseK (D_208_ok hS (pArK (show pAr 25 4 37 11 3 = true by decide +kernel) (by decide) g3) (pArK (show pAr 24 4 30 11 2 = true by decide +kernel) (by decide) g4) hc) H
      refine pG_call (x := v1) (M1 := M1) hD ?_
      replace H := pRun (ls' := [.ref 0, .int p1, .int p2]) (st' := [.ref 0]) 2 rfl H
      replace H := pGetR (r := 138) (pRf hS (by decide +kernel)) rfl H
      replace H := pGetN (v := M1 138 3) rfl (by decide) H
      exact pG_ret (pRetI H)
    · refine pG_neg (c := ¬ (f_33 p2) = 0) g2 ?_
      replace H := pRun (ls' := [.ref 0, .int p1, .int p2]) (st' := [.int (kI (-1))]) 1 rfl H
      exact pG_ret (pRetI H)
def l_23 : List (Nat × Nat) := [(143, 0), (143, 1), (143, 2), (143, 3), (143, 4), (143, 5), (143, 6), (143, 7), (143, 8), (143, 9), (143, 10), (143, 11), (144, 999), (145, 999), (146, 999), (147, 999), (138, 2), (138, 3)]
theorem F_23 {p1 : Int32} {p2 : Int32} {M : pMem} {v : Int32} {N : pMem} (h : D_23 p1 p2 M v N) : pFr (l_23) M N :=
  (show pTf (l_23) M (D_23 p1 p2 M) from (tf_if (tf_ret pFr_refl) (tf_if (tf_gd fun g3 => (tf_gd fun g4 => (tf_call pFr_refl (fun _ _ h => F_208 (pArK (show pAr 25 4 37 11 3 = true by decide +kernel) (by decide) g3) (pArK (show pAr 24 4 30 11 2 = true by decide +kernel) (by decide) g4) h) [0, 1, 2, 3, 4, 5, 6, 7, 8, 9, 10, 11, 12, 13, 14, 15, 16, 17] rfl fun _ M1 f1 => (tf_ret f1)))) (tf_ret pFr_refl)))) v N h
