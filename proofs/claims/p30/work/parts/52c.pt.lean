/-! what runs come to, method by method: printed by wip/pm/pm.py -/
/-- TwoCamps$Question.askOfCouple(LTwoCamps$Wood;II)V -/
def D_166s (w : Nat) (p2 : Int32) (p3 : Int32) (M : pMem) : pT Unit := tCall (D_165s w (f_225 w p2 M) M) fun _ M1 => tIf (¬ (f_225 w p2 M1) = (f_225 w p3 M1)) (tGd (pIn (kI 3) 14) <| tPut (aPut M1 135 (ix (kI 3)) (kI 0)) fun M2 => tGd (pIn p2 24) <| tIf ((f_37 (M2 (w + 2) (ix p2)) p3) = 0) (tGd (pIn (kI 4) 14) <| tPut (aPut M2 135 (ix (kI 4)) (kI 0)) fun M3 => tGd (pIn ((p2 * (kI 24)) + p3) 576) <| tGd (pIn (kI 8) 14) <| tPut (aPut M3 135 (ix (kI 8)) (M3 (w + 3) (ix ((p2 * (kI 24)) + p3)))) fun M4 => tGd (pIn ((p3 * (kI 24)) + p2) 576) <| tGd (pIn (kI 9) 14) <| tPut (aPut M4 135 (ix (kI 9)) (M4 (w + 3) (ix ((p3 * (kI 24)) + p2)))) fun M5 => tGd (pIn p3 24) <| tGd (pIn (kI 10) 14) <| tPut (aPut M5 135 (ix (kI 10)) (M5 (w + 1) (ix p3))) fun M6 => tRet () M6) (tGd (pIn (kI 4) 14) <| tPut (aPut M2 135 (ix (kI 4)) (kI 1)) fun M3 => tGd (pIn ((p2 * (kI 24)) + p3) 576) <| tGd (pIn (kI 8) 14) <| tPut (aPut M3 135 (ix (kI 8)) (M3 (w + 3) (ix ((p2 * (kI 24)) + p3)))) fun M4 => tGd (pIn ((p3 * (kI 24)) + p2) 576) <| tGd (pIn (kI 9) 14) <| tPut (aPut M4 135 (ix (kI 9)) (M4 (w + 3) (ix ((p3 * (kI 24)) + p2)))) fun M5 => tGd (pIn p3 24) <| tGd (pIn (kI 10) 14) <| tPut (aPut M5 135 (ix (kI 10)) (M5 (w + 1) (ix p3))) fun M6 => tRet () M6)) (tGd (pIn (kI 3) 14) <| tPut (aPut M1 135 (ix (kI 3)) (kI 1)) fun M2 => tGd (pIn p2 24) <| tIf ((f_37 (M2 (w + 2) (ix p2)) p3) = 0) (tGd (pIn (kI 4) 14) <| tPut (aPut M2 135 (ix (kI 4)) (kI 0)) fun M3 => tGd (pIn ((p2 * (kI 24)) + p3) 576) <| tGd (pIn (kI 8) 14) <| tPut (aPut M3 135 (ix (kI 8)) (M3 (w + 3) (ix ((p2 * (kI 24)) + p3)))) fun M4 => tGd (pIn ((p3 * (kI 24)) + p2) 576) <| tGd (pIn (kI 9) 14) <| tPut (aPut M4 135 (ix (kI 9)) (M4 (w + 3) (ix ((p3 * (kI 24)) + p2)))) fun M5 => tGd (pIn p3 24) <| tGd (pIn (kI 10) 14) <| tPut (aPut M5 135 (ix (kI 10)) (M5 (w + 1) (ix p3))) fun M6 => tRet () M6) (tGd (pIn (kI 4) 14) <| tPut (aPut M2 135 (ix (kI 4)) (kI 1)) fun M3 => tGd (pIn ((p2 * (kI 24)) + p3) 576) <| tGd (pIn (kI 8) 14) <| tPut (aPut M3 135 (ix (kI 8)) (M3 (w + 3) (ix ((p2 * (kI 24)) + p3)))) fun M4 => tGd (pIn ((p3 * (kI 24)) + p2) 576) <| tGd (pIn (kI 9) 14) <| tPut (aPut M4 135 (ix (kI 9)) (M4 (w + 3) (ix ((p3 * (kI 24)) + p2)))) fun M5 => tGd (pIn p3 24) <| tGd (pIn (kI 10) 14) <| tPut (aPut M5 135 (ix (kI 10)) (M5 (w + 1) (ix p3))) fun M6 => tRet () M6))
theorem D_166s_ok {X : aX} {F d : Nat} {K : Nat → aK} (hS : pS K) {w : Nat} {p2 : Int32} {p3 : Int32} (hw : pK 10 w = true) {M : pMem} {out : Option Value × aH} (H : aM X F d 166 [.ref 134, .ref w, .int p2, .int p3] (pH K M) = some out) : pG eU K out (D_166s w p2 p3 M) := by
  obtain ⟨d', g0, _, H⟩ := pEnt (n := 4) (ls := [.ref 134, .ref w, .int p2, .int p3]) (mcb_166 rfl) (by decide +kernel) rfl H
  unfold D_166s
  replace H := pRun (ls' := [.ref 134, .ref w, .int p2, .int p3]) (st' := [.int p2, .ref w, .ref w, .ref 134]) 4 rfl H
  obtain ⟨rv, h1, hc, H⟩ := pCalV 225 1 w (as := [.int p2]) (rest := [.ref w, .ref 134]) rfl (by decide) (by decide +kernel) rfl rfl H
  replace H := pUseF (f_225_ok hS hw hc) H
  obtain ⟨rv, h1, hc, H⟩ := pCalV 165 2 134 (as := [.ref w, .int (f_225 w p2 M)]) (rest := []) rfl (by decide) (by decide +kernel) rfl rfl H
  obtain ⟨v1, M1, hD, H⟩ := pUseU (D_165s_ok hS hw hc) H
  refine pG_call (x := v1) (M1 := M1) hD ?_
  replace H := pRun (ls' := [.ref 134, .ref w, .int p2, .int p3]) (st' := [.ref 134]) 1 rfl H
  replace H := pGetR (r := 135) (pRf hS (by decide +kernel)) rfl H
  replace H := pRun (ls' := [.ref 134, .ref w, .int p2, .int p3]) (st' := [.int p2, .ref w, .int (kI 3), .ref 135]) 3 rfl H
  obtain ⟨rv, h1, hc, H⟩ := pCalV 225 1 w (as := [.int p2]) (rest := [.int (kI 3), .ref 135]) rfl (by decide) (by decide +kernel) rfl rfl H
  replace H := pUseF (f_225_ok hS hw hc) H
  replace H := pRun (ls' := [.ref 134, .ref w, .int p2, .int p3]) (st' := [.int p3, .ref w, .int (f_225 w p2 M1), .int (kI 3), .ref 135]) 2 rfl H
  obtain ⟨rv, h1, hc, H⟩ := pCalV 225 1 w (as := [.int p3]) (rest := [.int (f_225 w p2 M1), .int (kI 3), .ref 135]) rfl (by decide) (by decide +kernel) rfl rfl H
  replace H := pUseF (f_225_ok hS hw hc) H
  rcases pIfc (n1 := 2) rfl (mcb_166 rfl) (mcb_166 rfl) H with ⟨g1, g0, _, H⟩ | ⟨g1, g0, _, H⟩
  · refine pG_pos (c := ¬ (f_225 w p2 M1) = (f_225 w p3 M1)) g1 ?_
    replace H := pRun (ls' := [.ref 134, .ref w, .int p2, .int p3]) (st' := [.int (kI 0), .int (kI 3), .ref 135]) 1 rfl H
    obtain ⟨g0, _, H⟩ := pFall (mcb_166 rfl) H
    obtain ⟨g2, M2, eM2, H⟩ := pIst (n := 14) (pLn hS (show pCa 135 14 = true by decide +kernel)) H
    refine pG_gd g2 (pG_put (M2 := M2) eM2 ?_)
    replace H := pRun (ls' := [.ref 134, .ref w, .int p2, .int p3]) (st' := [.ref 134]) 1 rfl H
    replace H := pGetR (r := 135) (pRf hS (by decide +kernel)) rfl H
    replace H := pRun (ls' := [.ref 134, .ref w, .int p2, .int p3]) (st' := [.ref w, .int (kI 4), .ref 135]) 2 rfl H
    replace H := pGetR (r := w + 2) (pRw hS hw (by decide +kernel)) rfl H
    replace H := pRun (ls' := [.ref 134, .ref w, .int p2, .int p3]) (st' := [.int p2, .ref (w + 2), .int (kI 4), .ref 135]) 1 rfl H
    obtain ⟨g3, H⟩ := pIld (n := 24) (pLt (pRl (n := 24) hw (by decide +kernel))) (pLn hS (pRl (n := 24) hw (by decide +kernel))) H
    refine pG_gd g3 ?_
    replace H := pRun (ls' := [.ref 134, .ref w, .int p2, .int p3]) (st' := [.int p3, .int (M2 (w + 2) (ix p2)), .int (kI 4), .ref 135]) 1 rfl H
    obtain ⟨rv, h1, hc, H⟩ := pCalT 37 2 (as := [.int (M2 (w + 2) (ix p2)), .int p3]) (rest := [.int (kI 4), .ref 135]) rfl (by decide) (by decide +kernel) rfl rfl H
    replace H := pUseF (f_37_ok hS hc) H
    rcases pIf0 (n1 := 5) rfl (mcb_166 rfl) (mcb_166 rfl) H with ⟨g4, g0, _, H⟩ | ⟨g4, g0, _, H⟩
    · refine pG_pos (c := (f_37 (M2 (w + 2) (ix p2)) p3) = 0) g4 ?_
      replace H := pRun (ls' := [.ref 134, .ref w, .int p2, .int p3]) (st' := [.int (kI 0), .int (kI 4), .ref 135]) 1 rfl H
      obtain ⟨g0, _, H⟩ := pFall (mcb_166 rfl) H
      obtain ⟨g5, M3, eM3, H⟩ := pIst (n := 14) (pLn hS (show pCa 135 14 = true by decide +kernel)) H
      refine pG_gd g5 (pG_put (M2 := M3) eM3 ?_)
      replace H := pRun (ls' := [.ref 134, .ref w, .int p2, .int p3]) (st' := [.ref 134]) 1 rfl H
      replace H := pGetR (r := 135) (pRf hS (by decide +kernel)) rfl H
      replace H := pRun (ls' := [.ref 134, .ref w, .int p2, .int p3]) (st' := [.ref w, .int (kI 8), .ref 135]) 2 rfl H
      replace H := pGetR (r := w + 3) (pRw hS hw (by decide +kernel)) rfl H
      replace H := pRun (ls' := [.ref 134, .ref w, .int p2, .int p3]) (st' := [.int ((p2 * (kI 24)) + p3), .ref (w + 3), .int (kI 8), .ref 135]) 5 rfl H
      obtain ⟨g6, H⟩ := pIld (n := 576) (pLt (pRl (n := 576) hw (by decide +kernel))) (pLn hS (pRl (n := 576) hw (by decide +kernel))) H
      refine pG_gd g6 ?_
      obtain ⟨g7, M4, eM4, H⟩ := pIst (n := 14) (pLn hS (show pCa 135 14 = true by decide +kernel)) H
      refine pG_gd g7 (pG_put (M2 := M4) eM4 ?_)
      replace H := pRun (ls' := [.ref 134, .ref w, .int p2, .int p3]) (st' := [.ref 134]) 1 rfl H
      replace H := pGetR (r := 135) (pRf hS (by decide +kernel)) rfl H
      replace H := pRun (ls' := [.ref 134, .ref w, .int p2, .int p3]) (st' := [.ref w, .int (kI 9), .ref 135]) 2 rfl H
      replace H := pGetR (r := w + 3) (pRw hS hw (by decide +kernel)) rfl H
      replace H := pRun (ls' := [.ref 134, .ref w, .int p2, .int p3]) (st' := [.int ((p3 * (kI 24)) + p2), .ref (w + 3), .int (kI 9), .ref 135]) 5 rfl H
      obtain ⟨g8, H⟩ := pIld (n := 576) (pLt (pRl (n := 576) hw (by decide +kernel))) (pLn hS (pRl (n := 576) hw (by decide +kernel))) H
      refine pG_gd g8 ?_
      obtain ⟨g9, M5, eM5, H⟩ := pIst (n := 14) (pLn hS (show pCa 135 14 = true by decide +kernel)) H
      refine pG_gd g9 (pG_put (M2 := M5) eM5 ?_)
      replace H := pRun (ls' := [.ref 134, .ref w, .int p2, .int p3]) (st' := [.ref 134]) 1 rfl H
      replace H := pGetR (r := 135) (pRf hS (by decide +kernel)) rfl H
      replace H := pRun (ls' := [.ref 134, .ref w, .int p2, .int p3]) (st' := [.ref w, .int (kI 10), .ref 135]) 2 rfl H
      replace H := pGetR (r := w + 1) (pRw hS hw (by decide +kernel)) rfl H
      replace H := pRun (ls' := [.ref 134, .ref w, .int p2, .int p3]) (st' := [.int p3, .ref (w + 1), .int (kI 10), .ref 135]) 1 rfl H
      obtain ⟨g10, H⟩ := pIld (n := 24) (pLt (pRl (n := 24) hw (by decide +kernel))) (pLn hS (pRl (n := 24) hw (by decide +kernel))) H
      refine pG_gd g10 ?_
      obtain ⟨g11, M6, eM6, H⟩ := pIst (n := 14) (pLn hS (show pCa 135 14 = true by decide +kernel)) H
      refine pG_gd g11 (pG_put (M2 := M6) eM6 ?_)
      exact pG_ret (pRetU H)
    · refine pG_neg (c := (f_37 (M2 (w + 2) (ix p2)) p3) = 0) g4 ?_
      replace H := pRun (ls' := [.ref 134, .ref w, .int p2, .int p3]) (st' := [.int (kI 1), .int (kI 4), .ref 135]) 1 rfl H
      obtain ⟨g0, _, H⟩ := pGo (n1 := 6) rfl (mcb_166 rfl) H
      obtain ⟨g5, M3, eM3, H⟩ := pIst (n := 14) (pLn hS (show pCa 135 14 = true by decide +kernel)) H
      refine pG_gd g5 (pG_put (M2 := M3) eM3 ?_)
      replace H := pRun (ls' := [.ref 134, .ref w, .int p2, .int p3]) (st' := [.ref 134]) 1 rfl H
      replace H := pGetR (r := 135) (pRf hS (by decide +kernel)) rfl H
      replace H := pRun (ls' := [.ref 134, .ref w, .int p2, .int p3]) (st' := [.ref w, .int (kI 8), .ref 135]) 2 rfl H
      replace H := pGetR (r := w + 3) (pRw hS hw (by decide +kernel)) rfl H
      replace H := pRun (ls' := [.ref 134, .ref w, .int p2, .int p3]) (st' := [.int ((p2 * (kI 24)) + p3), .ref (w + 3), .int (kI 8), .ref 135]) 5 rfl H
      obtain ⟨g6, H⟩ := pIld (n := 576) (pLt (pRl (n := 576) hw (by decide +kernel))) (pLn hS (pRl (n := 576) hw (by decide +kernel))) H
      refine pG_gd g6 ?_
      obtain ⟨g7, M4, eM4, H⟩ := pIst (n := 14) (pLn hS (show pCa 135 14 = true by decide +kernel)) H
      refine pG_gd g7 (pG_put (M2 := M4) eM4 ?_)
      replace H := pRun (ls' := [.ref 134, .ref w, .int p2, .int p3]) (st' := [.ref 134]) 1 rfl H
      replace H := pGetR (r := 135) (pRf hS (by decide +kernel)) rfl H
      replace H := pRun (ls' := [.ref 134, .ref w, .int p2, .int p3]) (st' := [.ref w, .int (kI 9), .ref 135]) 2 rfl H
      replace H := pGetR (r := w + 3) (pRw hS hw (by decide +kernel)) rfl H
      replace H := pRun (ls' := [.ref 134, .ref w, .int p2, .int p3]) (st' := [.int ((p3 * (kI 24)) + p2), .ref (w + 3), .int (kI 9), .ref 135]) 5 rfl H
      obtain ⟨g8, H⟩ := pIld (n := 576) (pLt (pRl (n := 576) hw (by decide +kernel))) (pLn hS (pRl (n := 576) hw (by decide +kernel))) H
      refine pG_gd g8 ?_
      obtain ⟨g9, M5, eM5, H⟩ := pIst (n := 14) (pLn hS (show pCa 135 14 = true by decide +kernel)) H
      refine pG_gd g9 (pG_put (M2 := M5) eM5 ?_)
      replace H := pRun (ls' := [.ref 134, .ref w, .int p2, .int p3]) (st' := [.ref 134]) 1 rfl H
      replace H := pGetR (r := 135) (pRf hS (by decide +kernel)) rfl H
      replace H := pRun (ls' := [.ref 134, .ref w, .int p2, .int p3]) (st' := [.ref w, .int (kI 10), .ref 135]) 2 rfl H
      replace H := pGetR (r := w + 1) (pRw hS hw (by decide +kernel)) rfl H
      replace H := pRun (ls' := [.ref 134, .ref w, .int p2, .int p3]) (st' := [.int p3, .ref (w + 1), .int (kI 10), .ref 135]) 1 rfl H
      obtain ⟨g10, H⟩ := pIld (n := 24) (pLt (pRl (n := 24) hw (by decide +kernel))) (pLn hS (pRl (n := 24) hw (by decide +kernel))) H
      refine pG_gd g10 ?_
      obtain ⟨g11, M6, eM6, H⟩ := pIst (n := 14) (pLn hS (show pCa 135 14 = true by decide +kernel)) H
      refine pG_gd g11 (pG_put (M2 := M6) eM6 ?_)
      exact pG_ret (pRetU H)
  · refine pG_neg (c := ¬ (f_225 w p2 M1) = (f_225 w p3 M1)) g1 ?_
    replace H := pRun (ls' := [.ref 134, .ref w, .int p2, .int p3]) (st' := [.int (kI 1), .int (kI 3), .ref 135]) 1 rfl H
    obtain ⟨g0, _, H⟩ := pGo (n1 := 3) rfl (mcb_166 rfl) H
    obtain ⟨g2, M2, eM2, H⟩ := pIst (n := 14) (pLn hS (show pCa 135 14 = true by decide +kernel)) H
    refine pG_gd g2 (pG_put (M2 := M2) eM2 ?_)
    replace H := pRun (ls' := [.ref 134, .ref w, .int p2, .int p3]) (st' := [.ref 134]) 1 rfl H
    replace H := pGetR (r := 135) (pRf hS (by decide +kernel)) rfl H
    replace H := pRun (ls' := [.ref 134, .ref w, .int p2, .int p3]) (st' := [.ref w, .int (kI 4), .ref 135]) 2 rfl H
    replace H := pGetR (r := w + 2) (pRw hS hw (by decide +kernel)) rfl H
    replace H := pRun (ls' := [.ref 134, .ref w, .int p2, .int p3]) (st' := [.int p2, .ref (w + 2), .int (kI 4), .ref 135]) 1 rfl H
    obtain ⟨g3, H⟩ := pIld (n := 24) (pLt (pRl (n := 24) hw (by decide +kernel))) (pLn hS (pRl (n := 24) hw (by decide +kernel))) H
    refine pG_gd g3 ?_
    replace H := pRun (ls' := [.ref 134, .ref w, .int p2, .int p3]) (st' := [.int p3, .int (M2 (w + 2) (ix p2)), .int (kI 4), .ref 135]) 1 rfl H
    obtain ⟨rv, h1, hc, H⟩ := pCalT 37 2 (as := [.int (M2 (w + 2) (ix p2)), .int p3]) (rest := [.int (kI 4), .ref 135]) rfl (by decide) (by decide +kernel) rfl rfl H
    replace H := pUseF (f_37_ok hS hc) H
    rcases pIf0 (n1 := 5) rfl (mcb_166 rfl) (mcb_166 rfl) H with ⟨g4, g0, _, H⟩ | ⟨g4, g0, _, H⟩
    · refine pG_pos (c := (f_37 (M2 (w + 2) (ix p2)) p3) = 0) g4 ?_
      replace H := pRun (ls' := [.ref 134, .ref w, .int p2, .int p3]) (st' := [.int (kI 0), .int (kI 4), .ref 135]) 1 rfl H
      obtain ⟨g0, _, H⟩ := pFall (mcb_166 rfl) H
      obtain ⟨g5, M3, eM3, H⟩ := pIst (n := 14) (pLn hS (show pCa 135 14 = true by decide +kernel)) H
      refine pG_gd g5 (pG_put (M2 := M3) eM3 ?_)
      replace H := pRun (ls' := [.ref 134, .ref w, .int p2, .int p3]) (st' := [.ref 134]) 1 rfl H
      replace H := pGetR (r := 135) (pRf hS (by decide +kernel)) rfl H
      replace H := pRun (ls' := [.ref 134, .ref w, .int p2, .int p3]) (st' := [.ref w, .int (kI 8), .ref 135]) 2 rfl H
      replace H := pGetR (r := w + 3) (pRw hS hw (by decide +kernel)) rfl H
      replace H := pRun (ls' := [.ref 134, .ref w, .int p2, .int p3]) (st' := [.int ((p2 * (kI 24)) + p3), .ref (w + 3), .int (kI 8), .ref 135]) 5 rfl H
      obtain ⟨g6, H⟩ := pIld (n := 576) (pLt (pRl (n := 576) hw (by decide +kernel))) (pLn hS (pRl (n := 576) hw (by decide +kernel))) H
      refine pG_gd g6 ?_
      obtain ⟨g7, M4, eM4, H⟩ := pIst (n := 14) (pLn hS (show pCa 135 14 = true by decide +kernel)) H
      refine pG_gd g7 (pG_put (M2 := M4) eM4 ?_)
      replace H := pRun (ls' := [.ref 134, .ref w, .int p2, .int p3]) (st' := [.ref 134]) 1 rfl H
      replace H := pGetR (r := 135) (pRf hS (by decide +kernel)) rfl H
      replace H := pRun (ls' := [.ref 134, .ref w, .int p2, .int p3]) (st' := [.ref w, .int (kI 9), .ref 135]) 2 rfl H
      replace H := pGetR (r := w + 3) (pRw hS hw (by decide +kernel)) rfl H
      replace H := pRun (ls' := [.ref 134, .ref w, .int p2, .int p3]) (st' := [.int ((p3 * (kI 24)) + p2), .ref (w + 3), .int (kI 9), .ref 135]) 5 rfl H
      obtain ⟨g8, H⟩ := pIld (n := 576) (pLt (pRl (n := 576) hw (by decide +kernel))) (pLn hS (pRl (n := 576) hw (by decide +kernel))) H
      refine pG_gd g8 ?_
      obtain ⟨g9, M5, eM5, H⟩ := pIst (n := 14) (pLn hS (show pCa 135 14 = true by decide +kernel)) H
      refine pG_gd g9 (pG_put (M2 := M5) eM5 ?_)
      replace H := pRun (ls' := [.ref 134, .ref w, .int p2, .int p3]) (st' := [.ref 134]) 1 rfl H
      replace H := pGetR (r := 135) (pRf hS (by decide +kernel)) rfl H
      replace H := pRun (ls' := [.ref 134, .ref w, .int p2, .int p3]) (st' := [.ref w, .int (kI 10), .ref 135]) 2 rfl H
      replace H := pGetR (r := w + 1) (pRw hS hw (by decide +kernel)) rfl H
      replace H := pRun (ls' := [.ref 134, .ref w, .int p2, .int p3]) (st' := [.int p3, .ref (w + 1), .int (kI 10), .ref 135]) 1 rfl H
      obtain ⟨g10, H⟩ := pIld (n := 24) (pLt (pRl (n := 24) hw (by decide +kernel))) (pLn hS (pRl (n := 24) hw (by decide +kernel))) H
      refine pG_gd g10 ?_
      obtain ⟨g11, M6, eM6, H⟩ := pIst (n := 14) (pLn hS (show pCa 135 14 = true by decide +kernel)) H
      refine pG_gd g11 (pG_put (M2 := M6) eM6 ?_)
      exact pG_ret (pRetU H)
    · refine pG_neg (c := (f_37 (M2 (w + 2) (ix p2)) p3) = 0) g4 ?_
      replace H := pRun (ls' := [.ref 134, .ref w, .int p2, .int p3]) (st' := [.int (kI 1), .int (kI 4), .ref 135]) 1 rfl H
      obtain ⟨g0, _, H⟩ := pGo (n1 := 6) rfl (mcb_166 rfl) H
      obtain ⟨g5, M3, eM3, H⟩ := pIst (n := 14) (pLn hS (show pCa 135 14 = true by decide +kernel)) H
      refine pG_gd g5 (pG_put (M2 := M3) eM3 ?_)
      replace H := pRun (ls' := [.ref 134, .ref w, .int p2, .int p3]) (st' := [.ref 134]) 1 rfl H
      replace H := pGetR (r := 135) (pRf hS (by decide +kernel)) rfl H
      replace H := pRun (ls' := [.ref 134, .ref w, .int p2, .int p3]) (st' := [.ref w, .int (kI 8), .ref 135]) 2 rfl H
      replace H := pGetR (r := w + 3) (pRw hS hw (by decide +kernel)) rfl H
      replace H := pRun (ls' := [.ref 134, .ref w, .int p2, .int p3]) (st' := [.int ((p2 * (kI 24)) + p3), .ref (w + 3), .int (kI 8), .ref 135]) 5 rfl H
      obtain ⟨g6, H⟩ := pIld (n := 576) (pLt (pRl (n := 576) hw (by decide +kernel))) (pLn hS (pRl (n := 576) hw (by decide +kernel))) H
      refine pG_gd g6 ?_
      obtain ⟨g7, M4, eM4, H⟩ := pIst (n := 14) (pLn hS (show pCa 135 14 = true by decide +kernel)) H
      refine pG_gd g7 (pG_put (M2 := M4) eM4 ?_)
      replace H := pRun (ls' := [.ref 134, .ref w, .int p2, .int p3]) (st' := [.ref 134]) 1 rfl H
      replace H := pGetR (r := 135) (pRf hS (by decide +kernel)) rfl H
      replace H := pRun (ls' := [.ref 134, .ref w, .int p2, .int p3]) (st' := [.ref w, .int (kI 9), .ref 135]) 2 rfl H
      replace H := pGetR (r := w + 3) (pRw hS hw (by decide +kernel)) rfl H
      replace H := pRun (ls' := [.ref 134, .ref w, .int p2, .int p3]) (st' := [.int ((p3 * (kI 24)) + p2), .ref (w + 3), .int (kI 9), .ref 135]) 5 rfl H
      obtain ⟨g8, H⟩ := pIld (n := 576) (pLt (pRl (n := 576) hw (by decide +kernel))) (pLn hS (pRl (n := 576) hw (by decide +kernel))) H
      refine pG_gd g8 ?_
      obtain ⟨g9, M5, eM5, H⟩ := pIst (n := 14) (pLn hS (show pCa 135 14 = true by decide +kernel)) H
      refine pG_gd g9 (pG_put (M2 := M5) eM5 ?_)
      replace H := pRun (ls' := [.ref 134, .ref w, .int p2, .int p3]) (st' := [.ref 134]) 1 rfl H
      replace H := pGetR (r := 135) (pRf hS (by decide +kernel)) rfl H
      replace H := pRun (ls' := [.ref 134, .ref w, .int p2, .int p3]) (st' := [.ref w, .int (kI 10), .ref 135]) 2 rfl H
      replace H := pGetR (r := w + 1) (pRw hS hw (by decide +kernel)) rfl H
      replace H := pRun (ls' := [.ref 134, .ref w, .int p2, .int p3]) (st' := [.int p3, .ref (w + 1), .int (kI 10), .ref 135]) 1 rfl H
      obtain ⟨g10, H⟩ := pIld (n := 24) (pLt (pRl (n := 24) hw (by decide +kernel))) (pLn hS (pRl (n := 24) hw (by decide +kernel))) H
      refine pG_gd g10 ?_
      obtain ⟨g11, M6, eM6, H⟩ := pIst (n := 14) (pLn hS (show pCa 135 14 = true by decide +kernel)) H
      refine pG_gd g11 (pG_put (M2 := M6) eM6 ?_)
      exact pG_ret (pRetU H)
def l_166s (w : Nat) : List (Nat × Nat) := []
theorem F_166s {w : Nat} {p2 : Int32} {p3 : Int32} (hw : pK 10 w = true) {M : pMem} {v : Unit} {N : pMem} (h : D_166s w p2 p3 M v N) : pFr (l_166s w) M N :=
  (show pTf (l_166s w) M (D_166s w p2 p3 M) from (tf_call pFr_refl (fun _ _ h => F_165s hw h) [] rfl fun _ M1 f1 => (tf_if (tf_gd fun g2 => (tf_putS f1 (fun _ => rfl) fun M2 f2 => (tf_gd fun g3 => (tf_if (tf_gd fun g5 => (tf_putS f2 (fun _ => rfl) fun M3 f3 => (tf_gd fun g6 => (tf_gd fun g7 => (tf_putS f3 (fun _ => rfl) fun M4 f4 => (tf_gd fun g8 => (tf_gd fun g9 => (tf_putS f4 (fun _ => rfl) fun M5 f5 => (tf_gd fun g10 => (tf_gd fun g11 => (tf_putS f5 (fun _ => rfl) fun M6 f6 => (tf_ret f6)))))))))))) (tf_gd fun g5 => (tf_putS f2 (fun _ => rfl) fun M3 f3 => (tf_gd fun g6 => (tf_gd fun g7 => (tf_putS f3 (fun _ => rfl) fun M4 f4 => (tf_gd fun g8 => (tf_gd fun g9 => (tf_putS f4 (fun _ => rfl) fun M5 f5 => (tf_gd fun g10 => (tf_gd fun g11 => (tf_putS f5 (fun _ => rfl) fun M6 f6 => (tf_ret f6)))))))))))))))) (tf_gd fun g2 => (tf_putS f1 (fun _ => rfl) fun M2 f2 => (tf_gd fun g3 => (tf_if (tf_gd fun g5 => (tf_putS f2 (fun _ => rfl) fun M3 f3 => (tf_gd fun g6 => (tf_gd fun g7 => (tf_putS f3 (fun _ => rfl) fun M4 f4 => (tf_gd fun g8 => (tf_gd fun g9 => (tf_putS f4 (fun _ => rfl) fun M5 f5 => (tf_gd fun g10 => (tf_gd fun g11 => (tf_putS f5 (fun _ => rfl) fun M6 f6 => (tf_ret f6)))))))))))) (tf_gd fun g5 => (tf_putS f2 (fun _ => rfl) fun M3 f3 => (tf_gd fun g6 => (tf_gd fun g7 => (tf_putS f3 (fun _ => rfl) fun M4 f4 => (tf_gd fun g8 => (tf_gd fun g9 => (tf_putS f4 (fun _ => rfl) fun M5 f5 => (tf_gd fun g10 => (tf_gd fun g11 => (tf_putS f5 (fun _ => rfl) fun M6 f6 => (tf_ret f6))))))))))))))))))) v N h
/-- TwoCamps$Course.begin(LTwoCamps$Wood;III)V -/
def D_139 (w : Nat) (p2 : Int32) (p3 : Int32) (p4 : Int32) (M : pMem) : pT Unit := tPut (aPut M w 6 p2) fun M1 => tPut (aPut M1 w 7 p3) fun M2 => tPut (aPut M2 w 8 (M2 w 4)) fun M3 => tPut (aPut M3 w 9 (kI (-1))) fun M4 => tPut (aPut M4 w 10 p4) fun M5 => tPut (aPut M5 w 11 (kI 0)) fun M6 => tIf ((f_32 p4) = 0) (tRet () M6) (tCall (D_235 w (kI 8) p4 (kI 1) M6) fun _ M7 => tRet () M7)
theorem D_139_ok {X : aX} {F d : Nat} {K : Nat → aK} (hS : pS K) {w : Nat} {p2 : Int32} {p3 : Int32} {p4 : Int32} (hw : pK 10 w = true) {M : pMem} {out : Option Value × aH} (H : aM X F d 139 [.ref 130, .ref w, .int p2, .int p3, .int p4] (pH K M) = some out) : pG eU K out (D_139 w p2 p3 p4 M) := by
  obtain ⟨d', g0, _, H⟩ := pEnt (n := 5) (ls := [.ref 130, .ref w, .int p2, .int p3, .int p4]) (mcb_139 rfl) (by decide +kernel) rfl H
  unfold D_139
  replace H := pRun (ls' := [.ref 130, .ref w, .int p2, .int p3, .int p4]) (st' := [.int p2, .ref w]) 2 rfl H
  obtain ⟨M1, eM1, H⟩ := pPutN (j := 6) rfl H
  refine pG_put (M2 := M1) eM1 ?_
  replace H := pRun (ls' := [.ref 130, .ref w, .int p2, .int p3, .int p4]) (st' := [.int p3, .ref w]) 2 rfl H
  obtain ⟨M2, eM2, H⟩ := pPutN (j := 7) rfl H
  refine pG_put (M2 := M2) eM2 ?_
  replace H := pRun (ls' := [.ref 130, .ref w, .int p2, .int p3, .int p4]) (st' := [.ref w, .ref w]) 2 rfl H
  replace H := pGetN (v := M2 w 4) rfl (by decide) H
  obtain ⟨M3, eM3, H⟩ := pPutN (j := 8) rfl H
  refine pG_put (M2 := M3) eM3 ?_
  replace H := pRun (ls' := [.ref 130, .ref w, .int p2, .int p3, .int p4]) (st' := [.int (kI (-1)), .ref w]) 2 rfl H
  obtain ⟨M4, eM4, H⟩ := pPutN (j := 9) rfl H
  refine pG_put (M2 := M4) eM4 ?_
  replace H := pRun (ls' := [.ref 130, .ref w, .int p2, .int p3, .int p4]) (st' := [.int p4, .ref w]) 2 rfl H
  obtain ⟨M5, eM5, H⟩ := pPutN (j := 10) rfl H
  refine pG_put (M2 := M5) eM5 ?_
  replace H := pRun (ls' := [.ref 130, .ref w, .int p2, .int p3, .int p4]) (st' := [.int (kI 0), .ref w]) 2 rfl H
  obtain ⟨M6, eM6, H⟩ := pPutN (j := 11) rfl H
  refine pG_put (M2 := M6) eM6 ?_
  replace H := pRun (ls' := [.ref 130, .ref w, .int p2, .int p3, .int p4]) (st' := [.int p4]) 1 rfl H
  obtain ⟨rv, h1, hc, H⟩ := pCalT 32 1 (as := [.int p4]) (rest := []) rfl (by decide) (by decide +kernel) rfl rfl H
  replace H := pUseF (f_32_ok hS hc) H
  rcases pIf0 (n1 := 2) rfl (mcb_139 rfl) (mcb_139 rfl) H with ⟨g1, g0, _, H⟩ | ⟨g1, g0, _, H⟩
  · refine pG_pos (c := (f_32 p4) = 0) g1 ?_
    exact pG_ret (pRetU H)
  · refine pG_neg (c := (f_32 p4) = 0) g1 ?_
    replace H := pRun (ls' := [.ref 130, .ref w, .int p2, .int p3, .int p4]) (st' := [.int (kI 1), .int p4, .int (kI 8), .ref w]) 4 rfl H
    obtain ⟨rv, h1, hc, H⟩ := pCalV 235 3 w (as := [.int (kI 8), .int p4, .int (kI 1)]) (rest := []) rfl (by decide) (by decide +kernel) rfl rfl H
    obtain ⟨v1, M7, hD, H⟩ := pUseU (D_235_ok hS hw hc) H
    refine pG_call (x := v1) (M1 := M7) hD ?_
    obtain ⟨g0, _, H⟩ := pFall (mcb_139 rfl) H
    exact pG_ret (pRetU H)
def l_139 (w : Nat) : List (Nat × Nat) := [(w, 6), (w, 7), (w, 8), (w, 9), (w, 10), (w, 11), (w + 4, 999)]
theorem F_139 {w : Nat} {p2 : Int32} {p3 : Int32} {p4 : Int32} (hw : pK 10 w = true) {M : pMem} {v : Unit} {N : pMem} (h : D_139 w p2 p3 p4 M v N) : pFr (l_139 w) M N :=
  (show pTf (l_139 w) M (D_139 w p2 p3 p4 M) from (tf_put pFr_refl 0 rfl fun M1 f1 => (tf_put f1 1 rfl fun M2 f2 => (tf_put f2 2 rfl fun M3 f3 => (tf_put f3 3 rfl fun M4 f4 => (tf_put f4 4 rfl fun M5 f5 => (tf_put f5 5 rfl fun M6 f6 => (tf_if (tf_ret f6) (tf_call f6 (fun _ _ h => F_235 hw h) [6] rfl fun _ M7 f7 => (tf_ret f7)))))))))) v N h
/-- TwoCamps$Course.compete(LTwoCamps$Wood;)V -/
def D_140 (w : Nat) (M : pMem) : pT Unit := tCall (D_233 w (kI 0) M) fun v1 M1 => tCall (D_233 w (kI 1) M1) fun v2 M2 => tIf (v1 = v2) (tRet () M2) (tIf (v1 ≤ v2) (tPut (aPut M2 w 9 (kI 1)) fun M3 => tCall (D_235 w (kI 6) (M3 w 9) (kI 1) M3) fun _ M4 => tRet () M4) (tPut (aPut M2 w 9 (kI 0)) fun M3 => tCall (D_235 w (kI 6) (M3 w 9) (kI 1) M3) fun _ M4 => tRet () M4))
theorem D_140_ok {X : aX} {F d : Nat} {K : Nat → aK} (hS : pS K) {w : Nat} (hw : pK 10 w = true) {M : pMem} {out : Option Value × aH} (H : aM X F d 140 [.ref 130, .ref w] (pH K M) = some out) : pG eU K out (D_140 w M) := by
  obtain ⟨d', g0, _, H⟩ := pEnt (n := 4) (ls := [.ref 130, .ref w, aD, aD]) (mcb_140 rfl) (by decide +kernel) rfl H
  unfold D_140
  replace H := pRun (ls' := [.ref 130, .ref w, aD, aD]) (st' := [.int (kI 0), .ref w]) 2 rfl H
  obtain ⟨rv, h1, hc, H⟩ := pCalV 233 1 w (as := [.int (kI 0)]) (rest := []) rfl (by decide) (by decide +kernel) rfl rfl H
  obtain ⟨v1, M1, hD, H⟩ := pUseI (D_233_ok hS hw hc) H
  refine pG_call (x := v1) (M1 := M1) hD ?_
  replace H := pRun (ls' := [.ref 130, .ref w, .int v1, aD]) (st' := [.int (kI 1), .ref w]) 3 rfl H
  obtain ⟨rv, h1, hc, H⟩ := pCalV 233 1 w (as := [.int (kI 1)]) (rest := []) rfl (by decide) (by decide +kernel) rfl rfl H
  obtain ⟨v2, M2, hD, H⟩ := pUseI (D_233_ok hS hw hc) H
  refine pG_call (x := v2) (M1 := M2) hD ?_
  replace H := pRun (ls' := [.ref 130, .ref w, .int v1, .int v2]) (st' := [.int v2, .int v1]) 3 rfl H
  rcases pIfc (n1 := 5) rfl (mcb_140 rfl) (mcb_140 rfl) H with ⟨g1, g0, _, H⟩ | ⟨g1, g0, _, H⟩
  · refine pG_pos (c := v1 = v2) g1 ?_
    exact pG_ret (pRetU H)
  · refine pG_neg (c := v1 = v2) g1 ?_
    replace H := pRun (ls' := [.ref 130, .ref w, .int v1, .int v2]) (st' := [.int v2, .int v1, .ref w]) 3 rfl H
    rcases pIfc (n1 := 3) rfl (mcb_140 rfl) (mcb_140 rfl) H with ⟨g2, g0, _, H⟩ | ⟨g2, g0, _, H⟩
    · refine pG_pos (c := v1 ≤ v2) g2 ?_
      replace H := pRun (ls' := [.ref 130, .ref w, .int v1, .int v2]) (st' := [.int (kI 1), .ref w]) 1 rfl H
      obtain ⟨g0, _, H⟩ := pFall (mcb_140 rfl) H
      obtain ⟨M3, eM3, H⟩ := pPutN (j := 9) rfl H
      refine pG_put (M2 := M3) eM3 ?_
      replace H := pRun (ls' := [.ref 130, .ref w, .int v1, .int v2]) (st' := [.ref w, .int (kI 6), .ref w]) 3 rfl H
      replace H := pGetN (v := M3 w 9) rfl (by decide) H
      replace H := pRun (ls' := [.ref 130, .ref w, .int v1, .int v2]) (st' := [.int (kI 1), .int (M3 w 9), .int (kI 6), .ref w]) 1 rfl H
      obtain ⟨rv, h1, hc, H⟩ := pCalV 235 3 w (as := [.int (kI 6), .int (M3 w 9), .int (kI 1)]) (rest := []) rfl (by decide) (by decide +kernel) rfl rfl H
      obtain ⟨v3, M4, hD, H⟩ := pUseU (D_235_ok hS hw hc) H
      refine pG_call (x := v3) (M1 := M4) hD ?_
      obtain ⟨g0, _, H⟩ := pFall (mcb_140 rfl) H
      exact pG_ret (pRetU H)
    · refine pG_neg (c := v1 ≤ v2) g2 ?_
      replace H := pRun (ls' := [.ref 130, .ref w, .int v1, .int v2]) (st' := [.int (kI 0), .ref w]) 1 rfl H
      obtain ⟨g0, _, H⟩ := pGo (n1 := 4) rfl (mcb_140 rfl) H
      obtain ⟨M3, eM3, H⟩ := pPutN (j := 9) rfl H
      refine pG_put (M2 := M3) eM3 ?_
      replace H := pRun (ls' := [.ref 130, .ref w, .int v1, .int v2]) (st' := [.ref w, .int (kI 6), .ref w]) 3 rfl H
      replace H := pGetN (v := M3 w 9) rfl (by decide) H
      replace H := pRun (ls' := [.ref 130, .ref w, .int v1, .int v2]) (st' := [.int (kI 1), .int (M3 w 9), .int (kI 6), .ref w]) 1 rfl H
      obtain ⟨rv, h1, hc, H⟩ := pCalV 235 3 w (as := [.int (kI 6), .int (M3 w 9), .int (kI 1)]) (rest := []) rfl (by decide) (by decide +kernel) rfl rfl H
      obtain ⟨v3, M4, hD, H⟩ := pUseU (D_235_ok hS hw hc) H
      refine pG_call (x := v3) (M1 := M4) hD ?_
      obtain ⟨g0, _, H⟩ := pFall (mcb_140 rfl) H
      exact pG_ret (pRetU H)
def l_140 (w : Nat) : List (Nat × Nat) := [(w, 5), (w, 9), (w + 4, 999)]
theorem F_140 {w : Nat} (hw : pK 10 w = true) {M : pMem} {v : Unit} {N : pMem} (h : D_140 w M v N) : pFr (l_140 w) M N :=
  (show pTf (l_140 w) M (D_140 w M) from (tf_call pFr_refl (fun _ _ h => F_233 hw h) [0] rfl fun _ M1 f1 => (tf_call f1 (fun _ _ h => F_233 hw h) [0] rfl fun _ M2 f2 => (tf_if (tf_ret f2) (tf_if (tf_put f2 1 rfl fun M3 f3 => (tf_call f3 (fun _ _ h => F_235 hw h) [2] rfl fun _ M4 f4 => (tf_ret f4))) (tf_put f2 1 rfl fun M3 f3 => (tf_call f3 (fun _ _ h => F_235 hw h) [2] rfl fun _ M4 f4 => (tf_ret f4)))))))) v N h
/-- TwoCamps$Course.changed(LTwoCamps$Wood;LTwoCamps$Law;II)I -/
def D_142 (w : Nat) (l : Nat) (p3 : Int32) (p4 : Int32) (M : pMem) : pT Int32 := tCall (D_166c w p3 p4 M) fun _ M1 => tCall (D_157 l (kI 14) 132 (kI 0) M1) fun v2 M2 => tGd (pIn ((p3 * (kI 24)) + p4) 576) <| tRet (f_39 ((Int32.toInt64 (M2 (w + 3) (ix ((p3 * (kI 24)) + p4)))) + (Int32.toInt64 v2)) (kI (-50)) (kI 50)) M2
theorem D_142_ok {X : aX} {F d : Nat} {K : Nat → aK} (hS : pS K) {w : Nat} {l : Nat} {p3 : Int32} {p4 : Int32} (hw : pK 10 w = true) (hl : pK 2 l = true) {M : pMem} {out : Option Value × aH} (H : aM X F d 142 [.ref 130, .ref w, .ref l, .int p3, .int p4] (pH K M) = some out) : pG eI K out (D_142 w l p3 p4 M) := by
  obtain ⟨d', g0, _, H⟩ := pEnt (n := 7) (ls := [.ref 130, .ref w, .ref l, .int p3, .int p4, aD, aD]) (mcb_142 rfl) (by decide +kernel) rfl H
  unfold D_142
  replace H := pRun (ls' := [.ref 130, .ref w, .ref l, .int p3, .int p4, aD, aD]) (st' := [.ref 130]) 1 rfl H
  replace H := pGetR (r := 131) (pRf hS (by decide +kernel)) rfl H
  replace H := pRun (ls' := [.ref 130, .ref w, .ref l, .int p3, .int p4, aD, aD]) (st' := [.int p4, .int p3, .ref w, .ref 131]) 3 rfl H
  obtain ⟨rv, h1, hc, H⟩ := pCalV 166 3 131 (as := [.ref w, .int p3, .int p4]) (rest := []) rfl (by decide) (by decide +kernel) rfl rfl H
  obtain ⟨v1, M1, hD, H⟩ := pUseU (D_166c_ok hS hw hc) H
  refine pG_call (x := v1) (M1 := M1) hD ?_
  replace H := pRun (ls' := [.ref 130, .ref w, .ref l, .int p3, .int p4, aD, aD]) (st' := [.ref 130, .int (kI 14), .ref l]) 3 rfl H
  replace H := pGetR (r := 131) (pRf hS (by decide +kernel)) rfl H
  replace H := pGetR (r := 132) (pRf hS (by decide +kernel)) rfl H
  replace H := pRun (ls' := [.ref 130, .ref w, .ref l, .int p3, .int p4, aD, aD]) (st' := [.int (kI 0), .ref 132, .int (kI 14), .ref l]) 1 rfl H
  obtain ⟨rv, h1, hc, H⟩ := pCalV 157 3 l (as := [.int (kI 14), .ref 132, .int (kI 0)]) (rest := []) rfl (by decide) (by decide +kernel) rfl rfl H
  obtain ⟨v2, M2, hD, H⟩ := pUseI (D_157_ok hS hl (show pCa 132 14 = true by decide +kernel) hc) H
  refine pG_call (x := v2) (M1 := M2) hD ?_
  replace H := pRun (ls' := [.ref 130, .ref w, .ref l, .int p3, .int p4, .long (Int32.toInt64 v2), aD]) (st' := [.ref w]) 3 rfl H
  replace H := pGetR (r := w + 3) (pRw hS hw (by decide +kernel)) rfl H
  replace H := pRun (ls' := [.ref 130, .ref w, .ref l, .int p3, .int p4, .long (Int32.toInt64 v2), aD]) (st' := [.int ((p3 * (kI 24)) + p4), .ref (w + 3)]) 5 rfl H
  obtain ⟨g1, H⟩ := pIld (n := 576) (pLt (pRl (n := 576) hw (by decide +kernel))) (pLn hS (pRl (n := 576) hw (by decide +kernel))) H
  refine pG_gd g1 ?_
  replace H := pRun (ls' := [.ref 130, .ref w, .ref l, .int p3, .int p4, .long (Int32.toInt64 v2), aD]) (st' := [.int (kI 50), .int (kI (-50)), .long ((Int32.toInt64 (M2 (w + 3) (ix ((p3 * (kI 24)) + p4)))) + (Int32.toInt64 v2))]) 5 rfl H
  obtain ⟨rv, h1, hc, H⟩ := pCalT 39 3 (as := [.long ((Int32.toInt64 (M2 (w + 3) (ix ((p3 * (kI 24)) + p4)))) + (Int32.toInt64 v2)), .int (kI (-50)), .int (kI 50)]) (rest := []) rfl (by decide) (by decide +kernel) rfl rfl H
  replace H := pUseF (f_39_ok hS hc) H
  exact pG_ret (pRetI H)
def l_142 (w : Nat) (l : Nat) : List (Nat × Nat) := []
theorem F_142 {w : Nat} {l : Nat} {p3 : Int32} {p4 : Int32} (hw : pK 10 w = true) (hl : pK 2 l = true) {M : pMem} {v : Int32} {N : pMem} (h : D_142 w l p3 p4 M v N) : pFr (l_142 w l) M N :=
  (show pTf (l_142 w l) M (D_142 w l p3 p4 M) from (tf_call pFr_refl (fun _ _ h => F_166c hw h) [] rfl fun _ M1 f1 => (tf_call f1 (fun _ _ h => F_157 hl (show pCa 132 14 = true by decide +kernel) h) [] rfl fun _ M2 f2 => (tf_gd fun g1 => (tf_ret f2))))) v N h
/-- TwoCamps$Course.changeLikes(LTwoCamps$Wood;LTwoCamps$Law;)V -/
def S_141_1 (w : Nat) (l : Nat) (P1 : Int32 → pMem → pT Unit) (P3 : Int32 → Int32 → pMem → pT Unit) (x3 : Int32) (M : pMem) : pT Unit := tIf ((kI 24) ≤ x3) (tRet () M) (P3 x3 (x3 + (kI 1)) M)
def S_141_3 (w : Nat) (l : Nat) (P1 : Int32 → pMem → pT Unit) (P3 : Int32 → Int32 → pMem → pT Unit) (x3 : Int32) (x4 : Int32) (M : pMem) : pT Unit := tIf ((f_37 (M w 2) x3) = 0) (P1 (x3 + kI 1) M) (tIf ((kI 24) ≤ x4) (P1 (x3 + kI 1) M) (tIf ((f_37 (M w 2) x4) = 0) (P3 x3 (x4 + kI 1) M) (tCall (D_142 w l x3 x4 M) fun v1 M1 => tCall (D_142 w l x4 x3 M1) fun v2 M2 => tGd (pIn ((x3 * (kI 24)) + x4) 576) <| tPut (aPut M2 (w + 3) (ix ((x3 * (kI 24)) + x4)) v1) fun M3 => tGd (pIn ((x4 * (kI 24)) + x3) 576) <| tPut (aPut M3 (w + 3) (ix ((x4 * (kI 24)) + x3)) v2) fun M4 => P3 x3 (x4 + kI 1) M4)))
def C_141 (w : Nat) (l : Nat) (P1 : Int32 → pMem → pT Unit) (P3 : Int32 → Int32 → pMem → pT Unit) : Prop := (∀ (x3 : Int32) M v N, S_141_1 w l P1 P3 x3 M v N → P1 x3 M v N) ∧ (∀ (x3 : Int32) (x4 : Int32) M v N, S_141_3 w l P1 P3 x3 x4 M v N → P3 x3 x4 M v N)
def L_141_1 (w : Nat) (l : Nat) (x3 : Int32) (M : pMem) : pT Unit := fun v N => ∀ P : (Int32 → pMem → pT Unit) × (Int32 → Int32 → pMem → pT Unit), C_141 w l P.1 P.2 → P.1 x3 M v N
def L_141_3 (w : Nat) (l : Nat) (x3 : Int32) (x4 : Int32) (M : pMem) : pT Unit := fun v N => ∀ P : (Int32 → pMem → pT Unit) × (Int32 → Int32 → pMem → pT Unit), C_141 w l P.1 P.2 → P.2 x3 x4 M v N
def D_141 (w : Nat) (l : Nat) (M : pMem) : pT Unit := L_141_1 w l (kI 0) M
theorem K_141 {X : aX} {F d : Nat} {K : Nat → aK} (hS : pS K) {w : Nat} {l : Nat} (hw : pK 10 w = true) (hl : pK 2 l = true) {out : Option Value × aH} (P1 : Int32 → pMem → pT Unit) (P3 : Int32 → Int32 → pMem → pT Unit) (hC : C_141 w l P1 P3) : ∀ f, (∀ (x3 : Int32) (u4 : Value) (u5 : Value) (u6 : Value) M, pm X F d 141 f 1 [.iload 3, .bipush 24, .if_icmp .ge 9] [.ref 130, .ref w, .ref l, .int x3, u4, u5, u6] [] (pH K M) out → pG eU K out (P1 x3 M)) ∧ (∀ (x3 : Int32) (x4 : Int32) (u5 : Value) (u6 : Value) M, pm X F d 141 f 3 [.aload 1, .getfield 32410008, .iload 3, .invokestatic 921037, .ifCond .eq 8] [.ref 130, .ref w, .ref l, .int x3, .int x4, u5, u6] [] (pH K M) out → pG eU K out (P3 x3 x4 M)) := by
  intro f
  induction f using Nat.strongRecOn with
  | _ f ih =>
    refine ⟨?_, ?_⟩
    · intro x3 u4 u5 u6 M H
      refine pG_mono (fun v N h => hC.1 x3 M v N h) ?_
      unfold S_141_1
      replace H := pRun (ls' := [.ref 130, .ref w, .ref l, .int x3, u4, u5, u6]) (st' := [.int (kI 24), .int x3]) 2 rfl H
      rcases pIfc (n1 := 9) rfl (mcb_141 rfl) (mcb_141 rfl) H with ⟨g1, g0, _, H⟩ | ⟨g1, g0, _, H⟩
      · refine pG_pos (c := (kI 24) ≤ x3) g1 ?_
        exact pG_ret (pRetU H)
      · refine pG_neg (c := (kI 24) ≤ x3) g1 ?_
        replace H := pRun (ls' := [.ref 130, .ref w, .ref l, .int x3, .int (x3 + (kI 1)), u5, u6]) (st' := []) 4 rfl H
        obtain ⟨g0, _, H⟩ := pFall (mcb_141 rfl) H
        exact (ih _ (by omega)).2 _ _ _ _  _ H
    · intro x3 x4 u5 u6 M H
      refine pG_mono (fun v N h => hC.2 x3 x4 M v N h) ?_
      unfold S_141_3
      replace H := pRun (ls' := [.ref 130, .ref w, .ref l, .int x3, .int x4, u5, u6]) (st' := [.ref w]) 1 rfl H
      replace H := pGetN (v := M w 2) rfl (by decide) H
      replace H := pRun (ls' := [.ref 130, .ref w, .ref l, .int x3, .int x4, u5, u6]) (st' := [.int x3, .int (M w 2)]) 1 rfl H
      obtain ⟨rv, h1, hc, H⟩ := pCalT 37 2 (as := [.int (M w 2), .int x3]) (rest := []) rfl (by decide) (by decide +kernel) rfl rfl H
      replace H := pUseF (f_37_ok hS hc) H
      rcases pIf0 (n1 := 8) rfl (mcb_141 rfl) (mcb_141 rfl) H with ⟨g1, g0, _, H⟩ | ⟨g1, g0, _, H⟩
      · refine pG_pos (c := (f_37 (M w 2) x3) = 0) g1 ?_
        replace H := pRun (ls' := [.ref 130, .ref w, .ref l, .int (x3 + kI 1), .int x4, u5, u6]) (st' := []) 1 rfl H
        obtain ⟨g0, _, H⟩ := pGo (n1 := 1) rfl (mcb_141 rfl) H
        exact (ih _ (by omega)).1 _ _ _ _  _ H
      · refine pG_neg (c := (f_37 (M w 2) x3) = 0) g1 ?_
        replace H := pRun (ls' := [.ref 130, .ref w, .ref l, .int x3, .int x4, u5, u6]) (st' := [.int (kI 24), .int x4]) 2 rfl H
        rcases pIfc (n1 := 8) rfl (mcb_141 rfl) (mcb_141 rfl) H with ⟨g2, g0, _, H⟩ | ⟨g2, g0, _, H⟩
        · refine pG_pos (c := (kI 24) ≤ x4) g2 ?_
          replace H := pRun (ls' := [.ref 130, .ref w, .ref l, .int (x3 + kI 1), .int x4, u5, u6]) (st' := []) 1 rfl H
          obtain ⟨g0, _, H⟩ := pGo (n1 := 1) rfl (mcb_141 rfl) H
          exact (ih _ (by omega)).1 _ _ _ _  _ H
        · refine pG_neg (c := (kI 24) ≤ x4) g2 ?_
          replace H := pRun (ls' := [.ref 130, .ref w, .ref l, .int x3, .int x4, u5, u6]) (st' := [.ref w]) 1 rfl H
          replace H := pGetN (v := M w 2) rfl (by decide) H
          replace H := pRun (ls' := [.ref 130, .ref w, .ref l, .int x3, .int x4, u5, u6]) (st' := [.int x4, .int (M w 2)]) 1 rfl H
          obtain ⟨rv, h1, hc, H⟩ := pCalT 37 2 (as := [.int (M w 2), .int x4]) (rest := []) rfl (by decide) (by decide +kernel) rfl rfl H
          replace H := pUseF (f_37_ok hS hc) H
          rcases pIf0 (n1 := 7) rfl (mcb_141 rfl) (mcb_141 rfl) H with ⟨g3, g0, _, H⟩ | ⟨g3, g0, _, H⟩
          · refine pG_pos (c := (f_37 (M w 2) x4) = 0) g3 ?_
            replace H := pRun (ls' := [.ref 130, .ref w, .ref l, .int x3, .int (x4 + kI 1), u5, u6]) (st' := []) 1 rfl H
            obtain ⟨g0, _, H⟩ := pGo (n1 := 3) rfl (mcb_141 rfl) H
            exact (ih _ (by omega)).2 _ _ _ _  _ H
          · refine pG_neg (c := (f_37 (M w 2) x4) = 0) g3 ?_
            replace H := pRun (ls' := [.ref 130, .ref w, .ref l, .int x3, .int x4, u5, u6]) (st' := [.int x4, .int x3, .ref l, .ref w, .ref 130]) 5 rfl H
            obtain ⟨rv, h1, hc, H⟩ := pCalV 142 4 130 (as := [.ref w, .ref l, .int x3, .int x4]) (rest := []) rfl (by decide) (by decide +kernel) rfl rfl H
            obtain ⟨v1, M1, hD, H⟩ := pUseI (D_142_ok hS hw hl hc) H
            refine pG_call (x := v1) (M1 := M1) hD ?_
            replace H := pRun (ls' := [.ref 130, .ref w, .ref l, .int x3, .int x4, .int v1, u6]) (st' := [.int x3, .int x4, .ref l, .ref w, .ref 130]) 6 rfl H
            obtain ⟨rv, h1, hc, H⟩ := pCalV 142 4 130 (as := [.ref w, .ref l, .int x4, .int x3]) (rest := []) rfl (by decide) (by decide +kernel) rfl rfl H
            obtain ⟨v2, M2, hD, H⟩ := pUseI (D_142_ok hS hw hl hc) H
            refine pG_call (x := v2) (M1 := M2) hD ?_
            replace H := pRun (ls' := [.ref 130, .ref w, .ref l, .int x3, .int x4, .int v1, .int v2]) (st' := [.ref w]) 2 rfl H
            replace H := pGetR (r := w + 3) (pRw hS hw (by decide +kernel)) rfl H
            replace H := pRun (ls' := [.ref 130, .ref w, .ref l, .int x3, .int x4, .int v1, .int v2]) (st' := [.int v1, .int ((x3 * (kI 24)) + x4), .ref (w + 3)]) 6 rfl H
            obtain ⟨g4, M3, eM3, H⟩ := pIst (n := 576) (pLn hS (pRl (n := 576) hw (by decide +kernel))) H
            refine pG_gd g4 (pG_put (M2 := M3) eM3 ?_)
            replace H := pRun (ls' := [.ref 130, .ref w, .ref l, .int x3, .int x4, .int v1, .int v2]) (st' := [.ref w]) 1 rfl H
            replace H := pGetR (r := w + 3) (pRw hS hw (by decide +kernel)) rfl H
            replace H := pRun (ls' := [.ref 130, .ref w, .ref l, .int x3, .int x4, .int v1, .int v2]) (st' := [.int v2, .int ((x4 * (kI 24)) + x3), .ref (w + 3)]) 6 rfl H
            obtain ⟨g5, M4, eM4, H⟩ := pIst (n := 576) (pLn hS (pRl (n := 576) hw (by decide +kernel))) H
            refine pG_gd g5 (pG_put (M2 := M4) eM4 ?_)
            obtain ⟨g0, _, H⟩ := pFall (mcb_141 rfl) H
            replace H := pRun (ls' := [.ref 130, .ref w, .ref l, .int x3, .int (x4 + kI 1), .int v1, .int v2]) (st' := []) 1 rfl H
            obtain ⟨g0, _, H⟩ := pGo (n1 := 3) rfl (mcb_141 rfl) H
            exact (ih _ (by omega)).2 _ _ _ _  _ H
theorem L_141_1_ok {X : aX} {F d : Nat} {K : Nat → aK} (hS : pS K) {w : Nat} {l : Nat} (hw : pK 10 w = true) (hl : pK 2 l = true) {out : Option Value × aH} {f : Nat} {x3 : Int32} {u4 : Value} {u5 : Value} {u6 : Value} {M : pMem} (H : pm X F d 141 f 1 [.iload 3, .bipush 24, .if_icmp .ge 9] [.ref 130, .ref w, .ref l, .int x3, u4, u5, u6] [] (pH K M) out) : pG eU K out (L_141_1 w l x3 M) := by
  refine pG_all (C := fun P : (Int32 → pMem → pT Unit) × (Int32 → Int32 → pMem → pT Unit) => C_141 w l P.1 P.2) (T := fun P => P.1 x3 M) eU_inj ((fun _ _ _ _ => True), (fun _ _ _ _ _ => True)) ?_ (fun P hP => (K_141 hS hw hl P.1 P.2 hP f).1 _ _ _ _ _ H)
  exact ⟨(fun _ _ _ _ _ => trivial), (fun _ _ _ _ _ _ => trivial)⟩
theorem L_141_3_ok {X : aX} {F d : Nat} {K : Nat → aK} (hS : pS K) {w : Nat} {l : Nat} (hw : pK 10 w = true) (hl : pK 2 l = true) {out : Option Value × aH} {f : Nat} {x3 : Int32} {x4 : Int32} {u5 : Value} {u6 : Value} {M : pMem} (H : pm X F d 141 f 3 [.aload 1, .getfield 32410008, .iload 3, .invokestatic 921037, .ifCond .eq 8] [.ref 130, .ref w, .ref l, .int x3, .int x4, u5, u6] [] (pH K M) out) : pG eU K out (L_141_3 w l x3 x4 M) := by
  refine pG_all (C := fun P : (Int32 → pMem → pT Unit) × (Int32 → Int32 → pMem → pT Unit) => C_141 w l P.1 P.2) (T := fun P => P.2 x3 x4 M) eU_inj ((fun _ _ _ _ => True), (fun _ _ _ _ _ => True)) ?_ (fun P hP => (K_141 hS hw hl P.1 P.2 hP f).2 _ _ _ _ _ H)
  exact ⟨(fun _ _ _ _ _ => trivial), (fun _ _ _ _ _ _ => trivial)⟩
theorem D_141_ok {X : aX} {F d : Nat} {K : Nat → aK} (hS : pS K) {w : Nat} {l : Nat} (hw : pK 10 w = true) (hl : pK 2 l = true) {M : pMem} {out : Option Value × aH} (H : aM X F d 141 [.ref 130, .ref w, .ref l] (pH K M) = some out) : pG eU K out (D_141 w l M) := by
  obtain ⟨d', g0, _, H⟩ := pEnt (n := 7) (ls := [.ref 130, .ref w, .ref l, aD, aD, aD, aD]) (mcb_141 rfl) (by decide +kernel) rfl H
  unfold D_141
  replace H := pRun (ls' := [.ref 130, .ref w, .ref l, .int (kI 0), aD, aD, aD]) (st' := []) 2 rfl H
  obtain ⟨g0, _, H⟩ := pFall (mcb_141 rfl) H
  exact L_141_1_ok hS hw hl  H
def l_141 (w : Nat) (l : Nat) : List (Nat × Nat) := [(w + 3, 999)]
theorem FC_141 {w : Nat} {l : Nat} (hw : pK 10 w = true) (hl : pK 2 l = true) : C_141 w l (fun _ M _ N => pFr (l_141 w l) M N) (fun _ _ M _ N => pFr (l_141 w l) M N) := ⟨fun x3 M => show pTf (l_141 w l) M (S_141_1 w l _ _ x3 M) from (tf_if (tf_ret pFr_refl) (tf_jump pFr_refl)), fun x3 x4 M => show pTf (l_141 w l) M (S_141_3 w l _ _ x3 x4 M) from (tf_if (tf_jump pFr_refl) (tf_if (tf_jump pFr_refl) (tf_if (tf_jump pFr_refl) (tf_call pFr_refl (fun _ _ h => F_142 hw hl h) [] rfl fun _ M1 f1 => (tf_call f1 (fun _ _ h => F_142 hw hl h) [] rfl fun _ M2 f2 => (tf_gd fun g4 => (tf_putA f2 0 rfl fun M3 f3 => (tf_gd fun g5 => (tf_putA f3 0 rfl fun M4 f4 => (tf_jump f4))))))))))⟩
theorem F_141 {w : Nat} {l : Nat} (hw : pK 10 w = true) (hl : pK 2 l = true) {M : pMem} {v : Unit} {N : pMem} (h : D_141 w l M v N) : pFr (l_141 w l) M N :=
  (show pTf (l_141 w l) M (D_141 w l M) from (tf_jumpL (fun _ M _ N => pFr (l_141 w l) M N, fun _ _ M _ N => pFr (l_141 w l) M N) (FC_141 hw hl) rfl pFr_refl)) v N h
/-- TwoCamps$Course.letFight(LTwoCamps$Wood;LTwoCamps$Law;I)V -/
def D_143 (w : Nat) (l : Nat) (p3 : Int32) (M : pMem) : pT Unit := tCall (D_167c w p3 M) fun _ M1 => tCall (D_157 l (kI 15) 132 (kI 0) M1) fun v2 M2 => tIf (v2 ≤ 0) (tRet () M2) (tPut (aPut M2 w 11 ((M2 w 11) ||| ((kI 1) <<< (p3 &&& 31)))) fun M3 => tCall (D_235 w (kI 4) p3 (kI 1) M3) fun _ M4 => tCall (D_235 w (kI 5) p3 (pMnI v2 (kI 999)) M4) fun _ M5 => tRet () M5)
theorem D_143_ok {X : aX} {F d : Nat} {K : Nat → aK} (hS : pS K) {w : Nat} {l : Nat} {p3 : Int32} (hw : pK 10 w = true) (hl : pK 2 l = true) {M : pMem} {out : Option Value × aH} (H : aM X F d 143 [.ref 130, .ref w, .ref l, .int p3] (pH K M) = some out) : pG eU K out (D_143 w l p3 M) := by
  obtain ⟨d', g0, _, H⟩ := pEnt (n := 5) (ls := [.ref 130, .ref w, .ref l, .int p3, aD]) (mcb_143 rfl) (by decide +kernel) rfl H
  unfold D_143
  replace H := pRun (ls' := [.ref 130, .ref w, .ref l, .int p3, aD]) (st' := [.ref 130]) 1 rfl H
  replace H := pGetR (r := 131) (pRf hS (by decide +kernel)) rfl H
  replace H := pRun (ls' := [.ref 130, .ref w, .ref l, .int p3, aD]) (st' := [.int p3, .ref w, .ref 131]) 2 rfl H
  obtain ⟨rv, h1, hc, H⟩ := pCalV 167 2 131 (as := [.ref w, .int p3]) (rest := []) rfl (by decide) (by decide +kernel) rfl rfl H
  obtain ⟨v1, M1, hD, H⟩ := pUseU (D_167c_ok hS hw hc) H
  refine pG_call (x := v1) (M1 := M1) hD ?_
  replace H := pRun (ls' := [.ref 130, .ref w, .ref l, .int p3, aD]) (st' := [.ref 130, .int (kI 15), .ref l]) 3 rfl H
  replace H := pGetR (r := 131) (pRf hS (by decide +kernel)) rfl H
  replace H := pGetR (r := 132) (pRf hS (by decide +kernel)) rfl H
  replace H := pRun (ls' := [.ref 130, .ref w, .ref l, .int p3, aD]) (st' := [.int (kI 0), .ref 132, .int (kI 15), .ref l]) 1 rfl H
  obtain ⟨rv, h1, hc, H⟩ := pCalV 157 3 l (as := [.int (kI 15), .ref 132, .int (kI 0)]) (rest := []) rfl (by decide) (by decide +kernel) rfl rfl H
  obtain ⟨v2, M2, hD, H⟩ := pUseI (D_157_ok hS hl (show pCa 132 14 = true by decide +kernel) hc) H
  refine pG_call (x := v2) (M1 := M2) hD ?_
  replace H := pRun (ls' := [.ref 130, .ref w, .ref l, .int p3, .int v2]) (st' := [.int v2]) 2 rfl H
  rcases pIf0 (n1 := 2) rfl (mcb_143 rfl) (mcb_143 rfl) H with ⟨g1, g0, _, H⟩ | ⟨g1, g0, _, H⟩
  · refine pG_pos (c := v2 ≤ 0) g1 ?_
    exact pG_ret (pRetU H)
  · refine pG_neg (c := v2 ≤ 0) g1 ?_
    replace H := pRun (ls' := [.ref 130, .ref w, .ref l, .int p3, .int v2]) (st' := [.ref w, .ref w]) 2 rfl H
    replace H := pGetN (v := M2 w 11) rfl (by decide) H
    replace H := pRun (ls' := [.ref 130, .ref w, .ref l, .int p3, .int v2]) (st' := [.int ((M2 w 11) ||| ((kI 1) <<< (p3 &&& 31))), .ref w]) 4 rfl H
    obtain ⟨M3, eM3, H⟩ := pPutN (j := 11) rfl H
    refine pG_put (M2 := M3) eM3 ?_
    replace H := pRun (ls' := [.ref 130, .ref w, .ref l, .int p3, .int v2]) (st' := [.int (kI 1), .int p3, .int (kI 4), .ref w]) 4 rfl H
    obtain ⟨rv, h1, hc, H⟩ := pCalV 235 3 w (as := [.int (kI 4), .int p3, .int (kI 1)]) (rest := []) rfl (by decide) (by decide +kernel) rfl rfl H
    obtain ⟨v3, M4, hD, H⟩ := pUseU (D_235_ok hS hw hc) H
    refine pG_call (x := v3) (M1 := M4) hD ?_
    replace H := pRun (ls' := [.ref 130, .ref w, .ref l, .int p3, .int v2]) (st' := [.int (kI 999), .int v2, .int p3, .int (kI 5), .ref w]) 5 rfl H
    replace H := pMinI rfl H
    obtain ⟨rv, h1, hc, H⟩ := pCalV 235 3 w (as := [.int (kI 5), .int p3, .int (pMnI v2 (kI 999))]) (rest := []) rfl (by decide) (by decide +kernel) rfl rfl H
    obtain ⟨v4, M5, hD, H⟩ := pUseU (D_235_ok hS hw hc) H
    refine pG_call (x := v4) (M1 := M5) hD ?_
    obtain ⟨g0, _, H⟩ := pFall (mcb_143 rfl) H
    exact pG_ret (pRetU H)
def l_143 (w : Nat) (l : Nat) : List (Nat × Nat) := [(w, 11), (w + 4, 999)]
theorem F_143 {w : Nat} {l : Nat} {p3 : Int32} (hw : pK 10 w = true) (hl : pK 2 l = true) {M : pMem} {v : Unit} {N : pMem} (h : D_143 w l p3 M v N) : pFr (l_143 w l) M N :=
  (show pTf (l_143 w l) M (D_143 w l p3 M) from (tf_call pFr_refl (fun _ _ h => F_167c hw h) [] rfl fun _ M1 f1 => (tf_call f1 (fun _ _ h => F_157 hl (show pCa 132 14 = true by decide +kernel) h) [] rfl fun _ M2 f2 => (tf_if (tf_ret f2) (tf_put f2 0 rfl fun M3 f3 => (tf_call f3 (fun _ _ h => F_235 hw h) [1] rfl fun _ M4 f4 => (tf_call f4 (fun _ _ h => F_235 hw h) [1] rfl fun _ M5 f5 => (tf_ret f5)))))))) v N h
/-- TwoCamps$Course.sendHome(LTwoCamps$Wood;LTwoCamps$Law;)V -/
def S_144_1 (w : Nat) (l : Nat) (P1 : Int32 → Int32 → pMem → pT Unit) (x3 : Int32) (x4 : Int32) (M : pMem) : pT Unit := tIf ((kI 24) ≤ x4) (tPut (aPut M w 2 ((M w 2) &&& (x3 ^^^ (kI (-1))))) fun M1 => tRet () M1) (tIf ((f_37 (M w 2) x4) = 0) (P1 x3 (x4 + kI 1) M) (tCall (D_168c w x4 M) fun _ M1 => tCall (D_157 l (kI 16) 132 (kI 0) M1) fun v2 M2 => tIf (v2 ≤ 0) (P1 (x3 ||| (kI 0)) (x4 + kI 1) M2) (P1 (x3 ||| ((kI 1) <<< (x4 &&& 31))) (x4 + kI 1) M2)))
def C_144 (w : Nat) (l : Nat) (P1 : Int32 → Int32 → pMem → pT Unit) : Prop := (∀ (x3 : Int32) (x4 : Int32) M v N, S_144_1 w l P1 x3 x4 M v N → P1 x3 x4 M v N)
def L_144_1 (w : Nat) (l : Nat) (x3 : Int32) (x4 : Int32) (M : pMem) : pT Unit := fun v N => ∀ P : (Int32 → Int32 → pMem → pT Unit), C_144 w l P → P x3 x4 M v N
def D_144 (w : Nat) (l : Nat) (M : pMem) : pT Unit := L_144_1 w l (kI 0) (kI 0) M
theorem K_144 {X : aX} {F d : Nat} {K : Nat → aK} (hS : pS K) {w : Nat} {l : Nat} (hw : pK 10 w = true) (hl : pK 2 l = true) {out : Option Value × aH} (P1 : Int32 → Int32 → pMem → pT Unit) (hC : C_144 w l P1) : ∀ f, (∀ (x3 : Int32) (x4 : Int32) M, pm X F d 144 f 1 [.iload 4, .bipush 24, .if_icmp .ge 8] [.ref 130, .ref w, .ref l, .int x3, .int x4] [] (pH K M) out → pG eU K out (P1 x3 x4 M)) := by
  intro f
  induction f using Nat.strongRecOn with
  | _ f ih =>
    intro x3 x4 M H
    refine pG_mono (fun v N h => hC x3 x4 M v N h) ?_
    unfold S_144_1
    replace H := pRun (ls' := [.ref 130, .ref w, .ref l, .int x3, .int x4]) (st' := [.int (kI 24), .int x4]) 2 rfl H
    rcases pIfc (n1 := 8) rfl (mcb_144 rfl) (mcb_144 rfl) H with ⟨g1, g0, _, H⟩ | ⟨g1, g0, _, H⟩
    · refine pG_pos (c := (kI 24) ≤ x4) g1 ?_
      replace H := pRun (ls' := [.ref 130, .ref w, .ref l, .int x3, .int x4]) (st' := [.ref w, .ref w]) 2 rfl H
      replace H := pGetN (v := M w 2) rfl (by decide) H
      replace H := pRun (ls' := [.ref 130, .ref w, .ref l, .int x3, .int x4]) (st' := [.int ((M w 2) &&& (x3 ^^^ (kI (-1)))), .ref w]) 4 rfl H
      obtain ⟨M1, eM1, H⟩ := pPutN (j := 2) rfl H
      refine pG_put (M2 := M1) eM1 ?_
      exact pG_ret (pRetU H)
    · refine pG_neg (c := (kI 24) ≤ x4) g1 ?_
      replace H := pRun (ls' := [.ref 130, .ref w, .ref l, .int x3, .int x4]) (st' := [.ref w]) 1 rfl H
      replace H := pGetN (v := M w 2) rfl (by decide) H
      replace H := pRun (ls' := [.ref 130, .ref w, .ref l, .int x3, .int x4]) (st' := [.int x4, .int (M w 2)]) 1 rfl H
      obtain ⟨rv, h1, hc, H⟩ := pCalT 37 2 (as := [.int (M w 2), .int x4]) (rest := []) rfl (by decide) (by decide +kernel) rfl rfl H
      replace H := pUseF (f_37_ok hS hc) H
      rcases pIf0 (n1 := 7) rfl (mcb_144 rfl) (mcb_144 rfl) H with ⟨g2, g0, _, H⟩ | ⟨g2, g0, _, H⟩
      · refine pG_pos (c := (f_37 (M w 2) x4) = 0) g2 ?_
        replace H := pRun (ls' := [.ref 130, .ref w, .ref l, .int x3, .int (x4 + kI 1)]) (st' := []) 1 rfl H
        obtain ⟨g0, _, H⟩ := pGo (n1 := 1) rfl (mcb_144 rfl) H
        exact (ih _ (by omega)) _ _  _ H
      · refine pG_neg (c := (f_37 (M w 2) x4) = 0) g2 ?_
        replace H := pRun (ls' := [.ref 130, .ref w, .ref l, .int x3, .int x4]) (st' := [.ref 130]) 1 rfl H
        replace H := pGetR (r := 131) (pRf hS (by decide +kernel)) rfl H
        replace H := pRun (ls' := [.ref 130, .ref w, .ref l, .int x3, .int x4]) (st' := [.int x4, .ref w, .ref 131]) 2 rfl H
        obtain ⟨rv, h1, hc, H⟩ := pCalV 168 2 131 (as := [.ref w, .int x4]) (rest := []) rfl (by decide) (by decide +kernel) rfl rfl H
        obtain ⟨v1, M1, hD, H⟩ := pUseU (D_168c_ok hS hw hc) H
        refine pG_call (x := v1) (M1 := M1) hD ?_
        replace H := pRun (ls' := [.ref 130, .ref w, .ref l, .int x3, .int x4]) (st' := [.ref 130, .int (kI 16), .ref l, .int x3]) 4 rfl H
        replace H := pGetR (r := 131) (pRf hS (by decide +kernel)) rfl H
        replace H := pGetR (r := 132) (pRf hS (by decide +kernel)) rfl H
        replace H := pRun (ls' := [.ref 130, .ref w, .ref l, .int x3, .int x4]) (st' := [.int (kI 0), .ref 132, .int (kI 16), .ref l, .int x3]) 1 rfl H
        obtain ⟨rv, h1, hc, H⟩ := pCalV 157 3 l (as := [.int (kI 16), .ref 132, .int (kI 0)]) (rest := [.int x3]) rfl (by decide) (by decide +kernel) rfl rfl H
        obtain ⟨v2, M2, hD, H⟩ := pUseI (D_157_ok hS hl (show pCa 132 14 = true by decide +kernel) hc) H
        refine pG_call (x := v2) (M1 := M2) hD ?_
        rcases pIf0 (n1 := 5) rfl (mcb_144 rfl) (mcb_144 rfl) H with ⟨g3, g0, _, H⟩ | ⟨g3, g0, _, H⟩
        · refine pG_pos (c := v2 ≤ 0) g3 ?_
          replace H := pRun (ls' := [.ref 130, .ref w, .ref l, .int x3, .int x4]) (st' := [.int (kI 0), .int x3]) 1 rfl H
          obtain ⟨g0, _, H⟩ := pFall (mcb_144 rfl) H
          replace H := pRun (ls' := [.ref 130, .ref w, .ref l, .int (x3 ||| (kI 0)), .int x4]) (st' := []) 2 rfl H
          obtain ⟨g0, _, H⟩ := pFall (mcb_144 rfl) H
          replace H := pRun (ls' := [.ref 130, .ref w, .ref l, .int (x3 ||| (kI 0)), .int (x4 + kI 1)]) (st' := []) 1 rfl H
          obtain ⟨g0, _, H⟩ := pGo (n1 := 1) rfl (mcb_144 rfl) H
          exact (ih _ (by omega)) _ _  _ H
        · refine pG_neg (c := v2 ≤ 0) g3 ?_
          replace H := pRun (ls' := [.ref 130, .ref w, .ref l, .int x3, .int x4]) (st' := [.int ((kI 1) <<< (x4 &&& 31)), .int x3]) 3 rfl H
          obtain ⟨g0, _, H⟩ := pGo (n1 := 6) rfl (mcb_144 rfl) H
          replace H := pRun (ls' := [.ref 130, .ref w, .ref l, .int (x3 ||| ((kI 1) <<< (x4 &&& 31))), .int x4]) (st' := []) 2 rfl H
          obtain ⟨g0, _, H⟩ := pFall (mcb_144 rfl) H
          replace H := pRun (ls' := [.ref 130, .ref w, .ref l, .int (x3 ||| ((kI 1) <<< (x4 &&& 31))), .int (x4 + kI 1)]) (st' := []) 1 rfl H
          obtain ⟨g0, _, H⟩ := pGo (n1 := 1) rfl (mcb_144 rfl) H
          exact (ih _ (by omega)) _ _  _ H
theorem L_144_1_ok {X : aX} {F d : Nat} {K : Nat → aK} (hS : pS K) {w : Nat} {l : Nat} (hw : pK 10 w = true) (hl : pK 2 l = true) {out : Option Value × aH} {f : Nat} {x3 : Int32} {x4 : Int32} {M : pMem} (H : pm X F d 144 f 1 [.iload 4, .bipush 24, .if_icmp .ge 8] [.ref 130, .ref w, .ref l, .int x3, .int x4] [] (pH K M) out) : pG eU K out (L_144_1 w l x3 x4 M) := by
  refine pG_all (C := fun P : (Int32 → Int32 → pMem → pT Unit) => C_144 w l P) (T := fun P => P x3 x4 M) eU_inj (fun _ _ _ _ _ => True) ?_ (fun P hP => (K_144 hS hw hl P hP f) _ _ _ H)
  exact (fun _ _ _ _ _ _ => trivial)
theorem D_144_ok {X : aX} {F d : Nat} {K : Nat → aK} (hS : pS K) {w : Nat} {l : Nat} (hw : pK 10 w = true) (hl : pK 2 l = true) {M : pMem} {out : Option Value × aH} (H : aM X F d 144 [.ref 130, .ref w, .ref l] (pH K M) = some out) : pG eU K out (D_144 w l M) := by
  obtain ⟨d', g0, _, H⟩ := pEnt (n := 5) (ls := [.ref 130, .ref w, .ref l, aD, aD]) (mcb_144 rfl) (by decide +kernel) rfl H
  unfold D_144
  replace H := pRun (ls' := [.ref 130, .ref w, .ref l, .int (kI 0), .int (kI 0)]) (st' := []) 4 rfl H
  obtain ⟨g0, _, H⟩ := pFall (mcb_144 rfl) H
  exact L_144_1_ok hS hw hl  H
def l_144 (w : Nat) (l : Nat) : List (Nat × Nat) := [(w, 2)]
theorem FC_144 {w : Nat} {l : Nat} (hw : pK 10 w = true) (hl : pK 2 l = true) : C_144 w l (fun _ _ M _ N => pFr (l_144 w l) M N) := fun x3 x4 M => show pTf (l_144 w l) M (S_144_1 w l _ x3 x4 M) from (tf_if (tf_put pFr_refl 0 rfl fun M1 f1 => (tf_ret f1)) (tf_if (tf_jump pFr_refl) (tf_call pFr_refl (fun _ _ h => F_168c hw h) [] rfl fun _ M1 f1 => (tf_call f1 (fun _ _ h => F_157 hl (show pCa 132 14 = true by decide +kernel) h) [] rfl fun _ M2 f2 => (tf_if (tf_jump f2) (tf_jump f2))))))
theorem F_144 {w : Nat} {l : Nat} (hw : pK 10 w = true) (hl : pK 2 l = true) {M : pMem} {v : Unit} {N : pMem} (h : D_144 w l M v N) : pFr (l_144 w l) M N :=
  (show pTf (l_144 w l) M (D_144 w l M) from (tf_jumpL (fun _ _ M _ N => pFr (l_144 w l) M N) (FC_144 hw hl) rfl pFr_refl)) v N h
/-- TwoCamps$Course.giveName(LTwoCamps$Wood;LTwoCamps$Law;I)V -/
def D_145 (w : Nat) (l : Nat) (p3 : Int32) (M : pMem) : pT Unit := tCall (D_167c w p3 M) fun _ M1 => tIf (¬ (f_237 w p3 M1) = 0) (tRet () M1) (tCall (D_157 l (kI 17) 132 (kI 0) M1) fun v2 M2 => tIf (v2 ≤ 0) (tRet () M2) (tCall (D_235 w (kI 3) p3 ((M2 w 8) + (kI 1)) M2) fun _ M3 => tRet () M3))
theorem D_145_ok {X : aX} {F d : Nat} {K : Nat → aK} (hS : pS K) {w : Nat} {l : Nat} {p3 : Int32} (hw : pK 10 w = true) (hl : pK 2 l = true) {M : pMem} {out : Option Value × aH} (H : aM X F d 145 [.ref 130, .ref w, .ref l, .int p3] (pH K M) = some out) : pG eU K out (D_145 w l p3 M) := by
  obtain ⟨d', g0, _, H⟩ := pEnt (n := 4) (ls := [.ref 130, .ref w, .ref l, .int p3]) (mcb_145 rfl) (by decide +kernel) rfl H
  unfold D_145
  replace H := pRun (ls' := [.ref 130, .ref w, .ref l, .int p3]) (st' := [.ref 130]) 1 rfl H
  replace H := pGetR (r := 131) (pRf hS (by decide +kernel)) rfl H
  replace H := pRun (ls' := [.ref 130, .ref w, .ref l, .int p3]) (st' := [.int p3, .ref w, .ref 131]) 2 rfl H
  obtain ⟨rv, h1, hc, H⟩ := pCalV 167 2 131 (as := [.ref w, .int p3]) (rest := []) rfl (by decide) (by decide +kernel) rfl rfl H
  obtain ⟨v1, M1, hD, H⟩ := pUseU (D_167c_ok hS hw hc) H
  refine pG_call (x := v1) (M1 := M1) hD ?_
  replace H := pRun (ls' := [.ref 130, .ref w, .ref l, .int p3]) (st' := [.int p3, .ref w]) 2 rfl H
  obtain ⟨rv, h1, hc, H⟩ := pCalV 237 1 w (as := [.int p3]) (rest := []) rfl (by decide) (by decide +kernel) rfl rfl H
  replace H := pUseF (f_237_ok hS hw hc) H
  rcases pIf0 (n1 := 3) rfl (mcb_145 rfl) (mcb_145 rfl) H with ⟨g1, g0, _, H⟩ | ⟨g1, g0, _, H⟩
  · refine pG_pos (c := ¬ (f_237 w p3 M1) = 0) g1 ?_
    exact pG_ret (pRetU H)
  · refine pG_neg (c := ¬ (f_237 w p3 M1) = 0) g1 ?_
    replace H := pRun (ls' := [.ref 130, .ref w, .ref l, .int p3]) (st' := [.ref 130, .int (kI 17), .ref l]) 3 rfl H
    replace H := pGetR (r := 131) (pRf hS (by decide +kernel)) rfl H
    replace H := pGetR (r := 132) (pRf hS (by decide +kernel)) rfl H
    replace H := pRun (ls' := [.ref 130, .ref w, .ref l, .int p3]) (st' := [.int (kI 0), .ref 132, .int (kI 17), .ref l]) 1 rfl H
    obtain ⟨rv, h1, hc, H⟩ := pCalV 157 3 l (as := [.int (kI 17), .ref 132, .int (kI 0)]) (rest := []) rfl (by decide) (by decide +kernel) rfl rfl H
    obtain ⟨v2, M2, hD, H⟩ := pUseI (D_157_ok hS hl (show pCa 132 14 = true by decide +kernel) hc) H
    refine pG_call (x := v2) (M1 := M2) hD ?_
    rcases pIf0 (n1 := 3) rfl (mcb_145 rfl) (mcb_145 rfl) H with ⟨g2, g0, _, H⟩ | ⟨g2, g0, _, H⟩
    · refine pG_pos (c := v2 ≤ 0) g2 ?_
      exact pG_ret (pRetU H)
    · refine pG_neg (c := v2 ≤ 0) g2 ?_
      replace H := pRun (ls' := [.ref 130, .ref w, .ref l, .int p3]) (st' := [.ref w, .int p3, .int (kI 3), .ref w]) 4 rfl H
      replace H := pGetN (v := M2 w 8) rfl (by decide) H
      replace H := pRun (ls' := [.ref 130, .ref w, .ref l, .int p3]) (st' := [.int ((M2 w 8) + (kI 1)), .int p3, .int (kI 3), .ref w]) 2 rfl H
      obtain ⟨rv, h1, hc, H⟩ := pCalV 235 3 w (as := [.int (kI 3), .int p3, .int ((M2 w 8) + (kI 1))]) (rest := []) rfl (by decide) (by decide +kernel) rfl rfl H
      obtain ⟨v3, M3, hD, H⟩ := pUseU (D_235_ok hS hw hc) H
      refine pG_call (x := v3) (M1 := M3) hD ?_
      obtain ⟨g0, _, H⟩ := pFall (mcb_145 rfl) H
      exact pG_ret (pRetU H)
def l_145 (w : Nat) (l : Nat) : List (Nat × Nat) := [(w + 4, 999)]
theorem F_145 {w : Nat} {l : Nat} {p3 : Int32} (hw : pK 10 w = true) (hl : pK 2 l = true) {M : pMem} {v : Unit} {N : pMem} (h : D_145 w l p3 M v N) : pFr (l_145 w l) M N :=
  (show pTf (l_145 w l) M (D_145 w l p3 M) from (tf_call pFr_refl (fun _ _ h => F_167c hw h) [] rfl fun _ M1 f1 => (tf_if (tf_ret f1) (tf_call f1 (fun _ _ h => F_157 hl (show pCa 132 14 = true by decide +kernel) h) [] rfl fun _ M2 f2 => (tf_if (tf_ret f2) (tf_call f2 (fun _ _ h => F_235 hw h) [0] rfl fun _ M3 f3 => (tf_ret f3))))))) v N h
/-- TwoCamps$Course.goBy(LTwoCamps$Wood;LTwoCamps$Law;III)I -/
def D_138 (w : Nat) (l : Nat) (p3 : Int32) (p4 : Int32) (p5 : Int32) (M : pMem) : pT Int32 := tCall (D_139 w p3 p4 p5 M) fun _ M1 => tIf (¬ p3 = (kI 1)) (tCall (D_141 w l M1) fun _ M2 => tCall (D_143 w l (kI 0) M2) fun _ M3 => tCall (D_143 w l (kI 1) M3) fun _ M4 => tCall (D_144 w l M4) fun _ M5 => tCall (D_145 w l (kI 0) M5) fun _ M6 => tCall (D_145 w l (kI 1) M6) fun _ M7 => tPut (aPut M7 w 4 ((M7 w 4) + (kI 1))) fun M8 => tRet (f_239 (M8 w 11)) M8) (tCall (D_140 w M1) fun _ M2 => tCall (D_141 w l M2) fun _ M3 => tCall (D_143 w l (kI 0) M3) fun _ M4 => tCall (D_143 w l (kI 1) M4) fun _ M5 => tCall (D_144 w l M5) fun _ M6 => tCall (D_145 w l (kI 0) M6) fun _ M7 => tCall (D_145 w l (kI 1) M7) fun _ M8 => tPut (aPut M8 w 4 ((M8 w 4) + (kI 1))) fun M9 => tRet (f_239 (M9 w 11)) M9)
theorem D_138_ok {X : aX} {F d : Nat} {K : Nat → aK} (hS : pS K) {w : Nat} {l : Nat} {p3 : Int32} {p4 : Int32} {p5 : Int32} (hw : pK 10 w = true) (hl : pK 2 l = true) {M : pMem} {out : Option Value × aH} (H : aM X F d 138 [.ref 130, .ref w, .ref l, .int p3, .int p4, .int p5] (pH K M) = some out) : pG eI K out (D_138 w l p3 p4 p5 M) := by
  obtain ⟨d', g0, _, H⟩ := pEnt (n := 6) (ls := [.ref 130, .ref w, .ref l, .int p3, .int p4, .int p5]) (mcb_138 rfl) (by decide +kernel) rfl H
  unfold D_138
  replace H := pRun (ls' := [.ref 130, .ref w, .ref l, .int p3, .int p4, .int p5]) (st' := [.int p5, .int p4, .int p3, .ref w, .ref 130]) 5 rfl H
  obtain ⟨rv, h1, hc, H⟩ := pCalV 139 4 130 (as := [.ref w, .int p3, .int p4, .int p5]) (rest := []) rfl (by decide) (by decide +kernel) rfl rfl H
  obtain ⟨v1, M1, hD, H⟩ := pUseU (D_139_ok hS hw hc) H
  refine pG_call (x := v1) (M1 := M1) hD ?_
  replace H := pRun (ls' := [.ref 130, .ref w, .ref l, .int p3, .int p4, .int p5]) (st' := [.int (kI 1), .int p3]) 2 rfl H
  rcases pIfc (n1 := 2) rfl (mcb_138 rfl) (mcb_138 rfl) H with ⟨g1, g0, _, H⟩ | ⟨g1, g0, _, H⟩
  · refine pG_pos (c := ¬ p3 = (kI 1)) g1 ?_
    replace H := pRun (ls' := [.ref 130, .ref w, .ref l, .int p3, .int p4, .int p5]) (st' := [.ref l, .ref w, .ref 130]) 3 rfl H
    obtain ⟨rv, h1, hc, H⟩ := pCalV 141 2 130 (as := [.ref w, .ref l]) (rest := []) rfl (by decide) (by decide +kernel) rfl rfl H
    obtain ⟨v2, M2, hD, H⟩ := pUseU (D_141_ok hS hw hl hc) H
    refine pG_call (x := v2) (M1 := M2) hD ?_
    replace H := pRun (ls' := [.ref 130, .ref w, .ref l, .int p3, .int p4, .int p5]) (st' := [.int (kI 0), .ref l, .ref w, .ref 130]) 4 rfl H
    obtain ⟨rv, h1, hc, H⟩ := pCalV 143 3 130 (as := [.ref w, .ref l, .int (kI 0)]) (rest := []) rfl (by decide) (by decide +kernel) rfl rfl H
    obtain ⟨v3, M3, hD, H⟩ := pUseU (D_143_ok hS hw hl hc) H
    refine pG_call (x := v3) (M1 := M3) hD ?_
    replace H := pRun (ls' := [.ref 130, .ref w, .ref l, .int p3, .int p4, .int p5]) (st' := [.int (kI 1), .ref l, .ref w, .ref 130]) 4 rfl H
    obtain ⟨rv, h1, hc, H⟩ := pCalV 143 3 130 (as := [.ref w, .ref l, .int (kI 1)]) (rest := []) rfl (by decide) (by decide +kernel) rfl rfl H
    obtain ⟨v4, M4, hD, H⟩ := pUseU (D_143_ok hS hw hl hc) H
    refine pG_call (x := v4) (M1 := M4) hD ?_
    replace H := pRun (ls' := [.ref 130, .ref w, .ref l, .int p3, .int p4, .int p5]) (st' := [.ref l, .ref w, .ref 130]) 3 rfl H
    obtain ⟨rv, h1, hc, H⟩ := pCalV 144 2 130 (as := [.ref w, .ref l]) (rest := []) rfl (by decide) (by decide +kernel) rfl rfl H
    obtain ⟨v5, M5, hD, H⟩ := pUseU (D_144_ok hS hw hl hc) H
    refine pG_call (x := v5) (M1 := M5) hD ?_
    replace H := pRun (ls' := [.ref 130, .ref w, .ref l, .int p3, .int p4, .int p5]) (st' := [.int (kI 0), .ref l, .ref w, .ref 130]) 4 rfl H
    obtain ⟨rv, h1, hc, H⟩ := pCalV 145 3 130 (as := [.ref w, .ref l, .int (kI 0)]) (rest := []) rfl (by decide) (by decide +kernel) rfl rfl H
    obtain ⟨v6, M6, hD, H⟩ := pUseU (D_145_ok hS hw hl hc) H
    refine pG_call (x := v6) (M1 := M6) hD ?_
    replace H := pRun (ls' := [.ref 130, .ref w, .ref l, .int p3, .int p4, .int p5]) (st' := [.int (kI 1), .ref l, .ref w, .ref 130]) 4 rfl H
    obtain ⟨rv, h1, hc, H⟩ := pCalV 145 3 130 (as := [.ref w, .ref l, .int (kI 1)]) (rest := []) rfl (by decide) (by decide +kernel) rfl rfl H
    obtain ⟨v7, M7, hD, H⟩ := pUseU (D_145_ok hS hw hl hc) H
    refine pG_call (x := v7) (M1 := M7) hD ?_
    replace H := pRun (ls' := [.ref 130, .ref w, .ref l, .int p3, .int p4, .int p5]) (st' := [.ref w, .ref w]) 2 rfl H
    replace H := pGetN (v := M7 w 4) rfl (by decide) H
    replace H := pRun (ls' := [.ref 130, .ref w, .ref l, .int p3, .int p4, .int p5]) (st' := [.int ((M7 w 4) + (kI 1)), .ref w]) 2 rfl H
    obtain ⟨M8, eM8, H⟩ := pPutN (j := 4) rfl H
    refine pG_put (M2 := M8) eM8 ?_
    replace H := pRun (ls' := [.ref 130, .ref w, .ref l, .int p3, .int p4, .int p5]) (st' := [.ref w]) 1 rfl H
    replace H := pGetN (v := M8 w 11) rfl (by decide) H
    obtain ⟨rv, h1, hc, H⟩ := pCalT 239 1 (as := [.int (M8 w 11)]) (rest := []) rfl (by decide) (by decide +kernel) rfl rfl H
    replace H := pUseF (f_239_ok hS hc) H
    exact pG_ret (pRetI H)
  · refine pG_neg (c := ¬ p3 = (kI 1)) g1 ?_
    replace H := pRun (ls' := [.ref 130, .ref w, .ref l, .int p3, .int p4, .int p5]) (st' := [.ref w, .ref 130]) 2 rfl H
    obtain ⟨rv, h1, hc, H⟩ := pCalV 140 1 130 (as := [.ref w]) (rest := []) rfl (by decide) (by decide +kernel) rfl rfl H
    obtain ⟨v2, M2, hD, H⟩ := pUseU (D_140_ok hS hw hc) H
    refine pG_call (x := v2) (M1 := M2) hD ?_
    obtain ⟨g0, _, H⟩ := pFall (mcb_138 rfl) H
    replace H := pRun (ls' := [.ref 130, .ref w, .ref l, .int p3, .int p4, .int p5]) (st' := [.ref l, .ref w, .ref 130]) 3 rfl H
    obtain ⟨rv, h1, hc, H⟩ := pCalV 141 2 130 (as := [.ref w, .ref l]) (rest := []) rfl (by decide) (by decide +kernel) rfl rfl H
    obtain ⟨v3, M3, hD, H⟩ := pUseU (D_141_ok hS hw hl hc) H
    refine pG_call (x := v3) (M1 := M3) hD ?_
    replace H := pRun (ls' := [.ref 130, .ref w, .ref l, .int p3, .int p4, .int p5]) (st' := [.int (kI 0), .ref l, .ref w, .ref 130]) 4 rfl H
    obtain ⟨rv, h1, hc, H⟩ := pCalV 143 3 130 (as := [.ref w, .ref l, .int (kI 0)]) (rest := []) rfl (by decide) (by decide +kernel) rfl rfl H
    obtain ⟨v4, M4, hD, H⟩ := pUseU (D_143_ok hS hw hl hc) H
    refine pG_call (x := v4) (M1 := M4) hD ?_
    replace H := pRun (ls' := [.ref 130, .ref w, .ref l, .int p3, .int p4, .int p5]) (st' := [.int (kI 1), .ref l, .ref w, .ref 130]) 4 rfl H
    obtain ⟨rv, h1, hc, H⟩ := pCalV 143 3 130 (as := [.ref w, .ref l, .int (kI 1)]) (rest := []) rfl (by decide) (by decide +kernel) rfl rfl H
    obtain ⟨v5, M5, hD, H⟩ := pUseU (D_143_ok hS hw hl hc) H
    refine pG_call (x := v5) (M1 := M5) hD ?_
    replace H := pRun (ls' := [.ref 130, .ref w, .ref l, .int p3, .int p4, .int p5]) (st' := [.ref l, .ref w, .ref 130]) 3 rfl H
    obtain ⟨rv, h1, hc, H⟩ := pCalV 144 2 130 (as := [.ref w, .ref l]) (rest := []) rfl (by decide) (by decide +kernel) rfl rfl H
    obtain ⟨v6, M6, hD, H⟩ := pUseU (D_144_ok hS hw hl hc) H
    refine pG_call (x := v6) (M1 := M6) hD ?_
    replace H := pRun (ls' := [.ref 130, .ref w, .ref l, .int p3, .int p4, .int p5]) (st' := [.int (kI 0), .ref l, .ref w, .ref 130]) 4 rfl H
    obtain ⟨rv, h1, hc, H⟩ := pCalV 145 3 130 (as := [.ref w, .ref l, .int (kI 0)]) (rest := []) rfl (by decide) (by decide +kernel) rfl rfl H
    obtain ⟨v7, M7, hD, H⟩ := pUseU (D_145_ok hS hw hl hc) H
    refine pG_call (x := v7) (M1 := M7) hD ?_
    replace H := pRun (ls' := [.ref 130, .ref w, .ref l, .int p3, .int p4, .int p5]) (st' := [.int (kI 1), .ref l, .ref w, .ref 130]) 4 rfl H
    obtain ⟨rv, h1, hc, H⟩ := pCalV 145 3 130 (as := [.ref w, .ref l, .int (kI 1)]) (rest := []) rfl (by decide) (by decide +kernel) rfl rfl H
    obtain ⟨v8, M8, hD, H⟩ := pUseU (D_145_ok hS hw hl hc) H
    refine pG_call (x := v8) (M1 := M8) hD ?_
    replace H := pRun (ls' := [.ref 130, .ref w, .ref l, .int p3, .int p4, .int p5]) (st' := [.ref w, .ref w]) 2 rfl H
    replace H := pGetN (v := M8 w 4) rfl (by decide) H
    replace H := pRun (ls' := [.ref 130, .ref w, .ref l, .int p3, .int p4, .int p5]) (st' := [.int ((M8 w 4) + (kI 1)), .ref w]) 2 rfl H
    obtain ⟨M9, eM9, H⟩ := pPutN (j := 4) rfl H
    refine pG_put (M2 := M9) eM9 ?_
    replace H := pRun (ls' := [.ref 130, .ref w, .ref l, .int p3, .int p4, .int p5]) (st' := [.ref w]) 1 rfl H
    replace H := pGetN (v := M9 w 11) rfl (by decide) H
    obtain ⟨rv, h1, hc, H⟩ := pCalT 239 1 (as := [.int (M9 w 11)]) (rest := []) rfl (by decide) (by decide +kernel) rfl rfl H
    replace H := pUseF (f_239_ok hS hc) H
    exact pG_ret (pRetI H)
def l_138 (w : Nat) (l : Nat) : List (Nat × Nat) := [(w, 6), (w, 7), (w, 8), (w, 9), (w, 10), (w, 11), (w + 4, 999), (w + 3, 999), (w, 2), (w, 4), (w, 5)]
theorem F_138 {w : Nat} {l : Nat} {p3 : Int32} {p4 : Int32} {p5 : Int32} (hw : pK 10 w = true) (hl : pK 2 l = true) {M : pMem} {v : Int32} {N : pMem} (h : D_138 w l p3 p4 p5 M v N) : pFr (l_138 w l) M N :=
  (show pTf (l_138 w l) M (D_138 w l p3 p4 p5 M) from (tf_call pFr_refl (fun _ _ h => F_139 hw h) [0, 1, 2, 3, 4, 5, 6] rfl fun _ M1 f1 => (tf_if (tf_call f1 (fun _ _ h => F_141 hw hl h) [7] rfl fun _ M2 f2 => (tf_call f2 (fun _ _ h => F_143 hw hl h) [5, 6] rfl fun _ M3 f3 => (tf_call f3 (fun _ _ h => F_143 hw hl h) [5, 6] rfl fun _ M4 f4 => (tf_call f4 (fun _ _ h => F_144 hw hl h) [8] rfl fun _ M5 f5 => (tf_call f5 (fun _ _ h => F_145 hw hl h) [6] rfl fun _ M6 f6 => (tf_call f6 (fun _ _ h => F_145 hw hl h) [6] rfl fun _ M7 f7 => (tf_put f7 9 rfl fun M8 f8 => (tf_ret f8)))))))) (tf_call f1 (fun _ _ h => F_140 hw h) [10, 3, 6] rfl fun _ M2 f2 => (tf_call f2 (fun _ _ h => F_141 hw hl h) [7] rfl fun _ M3 f3 => (tf_call f3 (fun _ _ h => F_143 hw hl h) [5, 6] rfl fun _ M4 f4 => (tf_call f4 (fun _ _ h => F_143 hw hl h) [5, 6] rfl fun _ M5 f5 => (tf_call f5 (fun _ _ h => F_144 hw hl h) [8] rfl fun _ M6 f6 => (tf_call f6 (fun _ _ h => F_145 hw hl h) [6] rfl fun _ M7 f7 => (tf_call f7 (fun _ _ h => F_145 hw hl h) [6] rfl fun _ M8 f8 => (tf_put f8 9 rfl fun M9 f9 => (tf_ret f9)))))))))))) v N h
/-- TwoCamps$Slips.putIn(II)V -/
def S_186_1 (p1 : Int32) (p2 : Int32) (P1 : Int32 → pMem → pT Unit) (P6 : Int32 → Int32 → pMem → pT Unit) (x3 : Int32) (M : pMem) : pT Unit := tIf (x3 ≤ 0) (P6 x3 (kI 2) M) (tGd (pIn (x3 - (kI 1)) 3) <| tIf ((M 136 (ix (x3 - (kI 1)))) = (kI (-1))) (P1 (x3 + kI (-1)) M) (tGd (pIn (x3 - (kI 1)) 3) <| tIf (p2 ≤ (M 137 (ix (x3 - (kI 1))))) (P6 x3 (kI 2) M) (P1 (x3 + kI (-1)) M)))
def S_186_6 (p1 : Int32) (p2 : Int32) (P1 : Int32 → pMem → pT Unit) (P6 : Int32 → Int32 → pMem → pT Unit) (x3 : Int32) (x4 : Int32) (M : pMem) : pT Unit := tIf (x4 ≤ x3) (tIf ((kI 3) ≤ x3) (tRet () M) (tGd (pIn x3 3) <| tPut (aPut M 136 (ix x3) p1) fun M1 => tGd (pIn x3 3) <| tPut (aPut M1 137 (ix x3) p2) fun M2 => tRet () M2)) (tGd (pIn (x4 - (kI 1)) 3) <| tGd (pIn x4 3) <| tPut (aPut M 136 (ix x4) (M 136 (ix (x4 - (kI 1))))) fun M1 => tGd (pIn (x4 - (kI 1)) 3) <| tGd (pIn x4 3) <| tPut (aPut M1 137 (ix x4) (M1 137 (ix (x4 - (kI 1))))) fun M2 => P6 x3 (x4 + kI (-1)) M2)
def C_186 (p1 : Int32) (p2 : Int32) (P1 : Int32 → pMem → pT Unit) (P6 : Int32 → Int32 → pMem → pT Unit) : Prop := (∀ (x3 : Int32) M v N, S_186_1 p1 p2 P1 P6 x3 M v N → P1 x3 M v N) ∧ (∀ (x3 : Int32) (x4 : Int32) M v N, S_186_6 p1 p2 P1 P6 x3 x4 M v N → P6 x3 x4 M v N)
def L_186_1 (p1 : Int32) (p2 : Int32) (x3 : Int32) (M : pMem) : pT Unit := fun v N => ∀ P : (Int32 → pMem → pT Unit) × (Int32 → Int32 → pMem → pT Unit), C_186 p1 p2 P.1 P.2 → P.1 x3 M v N
def L_186_6 (p1 : Int32) (p2 : Int32) (x3 : Int32) (x4 : Int32) (M : pMem) : pT Unit := fun v N => ∀ P : (Int32 → pMem → pT Unit) × (Int32 → Int32 → pMem → pT Unit), C_186 p1 p2 P.1 P.2 → P.2 x3 x4 M v N
def D_186 (p1 : Int32) (p2 : Int32) (M : pMem) : pT Unit := L_186_1 p1 p2 (kI 3) M
theorem K_186 {X : aX} {F d : Nat} {K : Nat → aK} (hS : pS K) {p1 : Int32} {p2 : Int32} {out : Option Value × aH} (P1 : Int32 → pMem → pT Unit) (P6 : Int32 → Int32 → pMem → pT Unit) (hC : C_186 p1 p2 P1 P6) : ∀ f, (∀ (x3 : Int32) (u4 : Value) M, pm X F d 186 f 1 [.iload 3, .ifCond .le 5] [.ref 133, .int p1, .int p2, .int x3, u4] [] (pH K M) out → pG eU K out (P1 x3 M)) ∧ (∀ (x3 : Int32) (x4 : Int32) M, pm X F d 186 f 6 [.iload 4, .iload 3, .if_icmp .le 8] [.ref 133, .int p1, .int p2, .int x3, .int x4] [] (pH K M) out → pG eU K out (P6 x3 x4 M)) := by
  intro f
  induction f using Nat.strongRecOn with
  | _ f ih =>
    refine ⟨?_, ?_⟩
    · intro x3 u4 M H
      refine pG_mono (fun v N h => hC.1 x3 M v N h) ?_
      unfold S_186_1
      replace H := pRun (ls' := [.ref 133, .int p1, .int p2, .int x3, u4]) (st' := [.int x3]) 1 rfl H
      rcases pIf0 (n1 := 5) rfl (mcb_186 rfl) (mcb_186 rfl) H with ⟨g1, g0, _, H⟩ | ⟨g1, g0, _, H⟩
      · refine pG_pos (c := x3 ≤ 0) g1 ?_
        replace H := pRun (ls' := [.ref 133, .int p1, .int p2, .int x3, .int (kI 2)]) (st' := []) 2 rfl H
        obtain ⟨g0, _, H⟩ := pFall (mcb_186 rfl) H
        exact (ih _ (by omega)).2 _ _  _ H
      · refine pG_neg (c := x3 ≤ 0) g1 ?_
        replace H := pRun (ls' := [.ref 133, .int p1, .int p2, .int x3, u4]) (st' := [.ref 133]) 1 rfl H
        replace H := pGetR (r := 136) (pRf hS (by decide +kernel)) rfl H
        replace H := pRun (ls' := [.ref 133, .int p1, .int p2, .int x3, u4]) (st' := [.int (x3 - (kI 1)), .ref 136]) 3 rfl H
        obtain ⟨g2, H⟩ := pIld (n := 3) (pLt (show pCa 136 3 = true by decide +kernel)) (pLn hS (show pCa 136 3 = true by decide +kernel)) H
        refine pG_gd g2 ?_
        replace H := pRun (ls' := [.ref 133, .int p1, .int p2, .int x3, u4]) (st' := [.int (kI (-1)), .int (M 136 (ix (x3 - (kI 1))))]) 1 rfl H
        rcases pIfc (n1 := 4) rfl (mcb_186 rfl) (mcb_186 rfl) H with ⟨g3, g0, _, H⟩ | ⟨g3, g0, _, H⟩
        · refine pG_pos (c := (M 136 (ix (x3 - (kI 1)))) = (kI (-1))) g3 ?_
          replace H := pRun (ls' := [.ref 133, .int p1, .int p2, .int (x3 + kI (-1)), u4]) (st' := []) 1 rfl H
          obtain ⟨g0, _, H⟩ := pGo (n1 := 1) rfl (mcb_186 rfl) H
          exact (ih _ (by omega)).1 _ _  _ H
        · refine pG_neg (c := (M 136 (ix (x3 - (kI 1)))) = (kI (-1))) g3 ?_
          replace H := pRun (ls' := [.ref 133, .int p1, .int p2, .int x3, u4]) (st' := [.ref 133]) 1 rfl H
          replace H := pGetR (r := 137) (pRf hS (by decide +kernel)) rfl H
          replace H := pRun (ls' := [.ref 133, .int p1, .int p2, .int x3, u4]) (st' := [.int (x3 - (kI 1)), .ref 137]) 3 rfl H
          obtain ⟨g4, H⟩ := pIld (n := 3) (pLt (show pCa 137 3 = true by decide +kernel)) (pLn hS (show pCa 137 3 = true by decide +kernel)) H
          refine pG_gd g4 ?_
          replace H := pRun (ls' := [.ref 133, .int p1, .int p2, .int x3, u4]) (st' := [.int p2, .int (M 137 (ix (x3 - (kI 1))))]) 1 rfl H
          rcases pIfc (n1 := 5) rfl (mcb_186 rfl) (mcb_186 rfl) H with ⟨g5, g0, _, H⟩ | ⟨g5, g0, _, H⟩
          · refine pG_pos (c := p2 ≤ (M 137 (ix (x3 - (kI 1))))) g5 ?_
            replace H := pRun (ls' := [.ref 133, .int p1, .int p2, .int x3, .int (kI 2)]) (st' := []) 2 rfl H
            obtain ⟨g0, _, H⟩ := pFall (mcb_186 rfl) H
            exact (ih _ (by omega)).2 _ _  _ H
          · refine pG_neg (c := p2 ≤ (M 137 (ix (x3 - (kI 1))))) g5 ?_
            replace H := pRun (ls' := [.ref 133, .int p1, .int p2, .int (x3 + kI (-1)), u4]) (st' := []) 1 rfl H
            obtain ⟨g0, _, H⟩ := pGo (n1 := 1) rfl (mcb_186 rfl) H
            exact (ih _ (by omega)).1 _ _  _ H
    · intro x3 x4 M H
      refine pG_mono (fun v N h => hC.2 x3 x4 M v N h) ?_
      unfold S_186_6
      replace H := pRun (ls' := [.ref 133, .int p1, .int p2, .int x3, .int x4]) (st' := [.int x3, .int x4]) 2 rfl H
      rcases pIfc (n1 := 8) rfl (mcb_186 rfl) (mcb_186 rfl) H with ⟨g1, g0, _, H⟩ | ⟨g1, g0, _, H⟩
      · refine pG_pos (c := x4 ≤ x3) g1 ?_
        replace H := pRun (ls' := [.ref 133, .int p1, .int p2, .int x3, .int x4]) (st' := [.int (kI 3), .int x3]) 2 rfl H
        rcases pIfc (n1 := 10) rfl (mcb_186 rfl) (mcb_186 rfl) H with ⟨g2, g0, _, H⟩ | ⟨g2, g0, _, H⟩
        · refine pG_pos (c := (kI 3) ≤ x3) g2 ?_
          exact pG_ret (pRetU H)
        · refine pG_neg (c := (kI 3) ≤ x3) g2 ?_
          replace H := pRun (ls' := [.ref 133, .int p1, .int p2, .int x3, .int x4]) (st' := [.ref 133]) 1 rfl H
          replace H := pGetR (r := 136) (pRf hS (by decide +kernel)) rfl H
          replace H := pRun (ls' := [.ref 133, .int p1, .int p2, .int x3, .int x4]) (st' := [.int p1, .int x3, .ref 136]) 2 rfl H
          obtain ⟨g3, M1, eM1, H⟩ := pIst (n := 3) (pLn hS (show pCa 136 3 = true by decide +kernel)) H
          refine pG_gd g3 (pG_put (M2 := M1) eM1 ?_)
          replace H := pRun (ls' := [.ref 133, .int p1, .int p2, .int x3, .int x4]) (st' := [.ref 133]) 1 rfl H
          replace H := pGetR (r := 137) (pRf hS (by decide +kernel)) rfl H
          replace H := pRun (ls' := [.ref 133, .int p1, .int p2, .int x3, .int x4]) (st' := [.int p2, .int x3, .ref 137]) 2 rfl H
          obtain ⟨g4, M2, eM2, H⟩ := pIst (n := 3) (pLn hS (show pCa 137 3 = true by decide +kernel)) H
          refine pG_gd g4 (pG_put (M2 := M2) eM2 ?_)
          obtain ⟨g0, _, H⟩ := pFall (mcb_186 rfl) H
          exact pG_ret (pRetU H)
      · refine pG_neg (c := x4 ≤ x3) g1 ?_
        replace H := pRun (ls' := [.ref 133, .int p1, .int p2, .int x3, .int x4]) (st' := [.ref 133]) 1 rfl H
        replace H := pGetR (r := 136) (pRf hS (by decide +kernel)) rfl H
        replace H := pRun (ls' := [.ref 133, .int p1, .int p2, .int x3, .int x4]) (st' := [.ref 133, .int x4, .ref 136]) 2 rfl H
        replace H := pGetR (r := 136) (pRf hS (by decide +kernel)) rfl H
        replace H := pRun (ls' := [.ref 133, .int p1, .int p2, .int x3, .int x4]) (st' := [.int (x4 - (kI 1)), .ref 136, .int x4, .ref 136]) 3 rfl H
        obtain ⟨g2, H⟩ := pIld (n := 3) (pLt (show pCa 136 3 = true by decide +kernel)) (pLn hS (show pCa 136 3 = true by decide +kernel)) H
        refine pG_gd g2 ?_
        obtain ⟨g3, M1, eM1, H⟩ := pIst (n := 3) (pLn hS (show pCa 136 3 = true by decide +kernel)) H
        refine pG_gd g3 (pG_put (M2 := M1) eM1 ?_)
        replace H := pRun (ls' := [.ref 133, .int p1, .int p2, .int x3, .int x4]) (st' := [.ref 133]) 1 rfl H
        replace H := pGetR (r := 137) (pRf hS (by decide +kernel)) rfl H
        replace H := pRun (ls' := [.ref 133, .int p1, .int p2, .int x3, .int x4]) (st' := [.ref 133, .int x4, .ref 137]) 2 rfl H
        replace H := pGetR (r := 137) (pRf hS (by decide +kernel)) rfl H
        replace H := pRun (ls' := [.ref 133, .int p1, .int p2, .int x3, .int x4]) (st' := [.int (x4 - (kI 1)), .ref 137, .int x4, .ref 137]) 3 rfl H
        obtain ⟨g4, H⟩ := pIld (n := 3) (pLt (show pCa 137 3 = true by decide +kernel)) (pLn hS (show pCa 137 3 = true by decide +kernel)) H
        refine pG_gd g4 ?_
        obtain ⟨g5, M2, eM2, H⟩ := pIst (n := 3) (pLn hS (show pCa 137 3 = true by decide +kernel)) H
        refine pG_gd g5 (pG_put (M2 := M2) eM2 ?_)
        replace H := pRun (ls' := [.ref 133, .int p1, .int p2, .int x3, .int (x4 + kI (-1))]) (st' := []) 1 rfl H
        obtain ⟨g0, _, H⟩ := pGo (n1 := 6) rfl (mcb_186 rfl) H
        exact (ih _ (by omega)).2 _ _  _ H
theorem L_186_1_ok {X : aX} {F d : Nat} {K : Nat → aK} (hS : pS K) {p1 : Int32} {p2 : Int32} {out : Option Value × aH} {f : Nat} {x3 : Int32} {u4 : Value} {M : pMem} (H : pm X F d 186 f 1 [.iload 3, .ifCond .le 5] [.ref 133, .int p1, .int p2, .int x3, u4] [] (pH K M) out) : pG eU K out (L_186_1 p1 p2 x3 M) := by
  refine pG_all (C := fun P : (Int32 → pMem → pT Unit) × (Int32 → Int32 → pMem → pT Unit) => C_186 p1 p2 P.1 P.2) (T := fun P => P.1 x3 M) eU_inj ((fun _ _ _ _ => True), (fun _ _ _ _ _ => True)) ?_ (fun P hP => (K_186 hS P.1 P.2 hP f).1 _ _ _ H)
  exact ⟨(fun _ _ _ _ _ => trivial), (fun _ _ _ _ _ _ => trivial)⟩
theorem L_186_6_ok {X : aX} {F d : Nat} {K : Nat → aK} (hS : pS K) {p1 : Int32} {p2 : Int32} {out : Option Value × aH} {f : Nat} {x3 : Int32} {x4 : Int32} {M : pMem} (H : pm X F d 186 f 6 [.iload 4, .iload 3, .if_icmp .le 8] [.ref 133, .int p1, .int p2, .int x3, .int x4] [] (pH K M) out) : pG eU K out (L_186_6 p1 p2 x3 x4 M) := by
  refine pG_all (C := fun P : (Int32 → pMem → pT Unit) × (Int32 → Int32 → pMem → pT Unit) => C_186 p1 p2 P.1 P.2) (T := fun P => P.2 x3 x4 M) eU_inj ((fun _ _ _ _ => True), (fun _ _ _ _ _ => True)) ?_ (fun P hP => (K_186 hS P.1 P.2 hP f).2 _ _ _ H)
  exact ⟨(fun _ _ _ _ _ => trivial), (fun _ _ _ _ _ _ => trivial)⟩
theorem D_186_ok {X : aX} {F d : Nat} {K : Nat → aK} (hS : pS K) {p1 : Int32} {p2 : Int32} {M : pMem} {out : Option Value × aH} (H : aM X F d 186 [.ref 133, .int p1, .int p2] (pH K M) = some out) : pG eU K out (D_186 p1 p2 M) := by
  obtain ⟨d', g0, _, H⟩ := pEnt (n := 5) (ls := [.ref 133, .int p1, .int p2, aD, aD]) (mcb_186 rfl) (by decide +kernel) rfl H
  unfold D_186
  replace H := pRun (ls' := [.ref 133, .int p1, .int p2, .int (kI 3), aD]) (st' := []) 2 rfl H
  obtain ⟨g0, _, H⟩ := pFall (mcb_186 rfl) H
  exact L_186_1_ok hS  H
def l_186 : List (Nat × Nat) := []
theorem FC_186 {p1 : Int32} {p2 : Int32} : C_186 p1 p2 (fun _ M _ N => pFr (l_186) M N) (fun _ _ M _ N => pFr (l_186) M N) := ⟨fun x3 M => show pTf (l_186) M (S_186_1 p1 p2 _ _ x3 M) from (tf_if (tf_jump pFr_refl) (tf_gd fun g2 => (tf_if (tf_jump pFr_refl) (tf_gd fun g4 => (tf_if (tf_jump pFr_refl) (tf_jump pFr_refl)))))), fun x3 x4 M => show pTf (l_186) M (S_186_6 p1 p2 _ _ x3 x4 M) from (tf_if (tf_if (tf_ret pFr_refl) (tf_gd fun g3 => (tf_putS pFr_refl (fun _ => rfl) fun M1 f1 => (tf_gd fun g4 => (tf_putS f1 (fun _ => rfl) fun M2 f2 => (tf_ret f2)))))) (tf_gd fun g2 => (tf_gd fun g3 => (tf_putS pFr_refl (fun _ => rfl) fun M1 f1 => (tf_gd fun g4 => (tf_gd fun g5 => (tf_putS f1 (fun _ => rfl) fun M2 f2 => (tf_jump f2))))))))⟩
theorem F_186 {p1 : Int32} {p2 : Int32} {M : pMem} {v : Unit} {N : pMem} (h : D_186 p1 p2 M v N) : pFr (l_186) M N :=
  (show pTf (l_186) M (D_186 p1 p2 M) from (tf_jumpL (fun _ M _ N => pFr (l_186) M N, fun _ _ M _ N => pFr (l_186) M N) (FC_186) rfl pFr_refl)) v N h
/-- TwoCamps$Slips.find(LTwoCamps$Wood;LTwoCamps$Law;I)V -/
def S_185_1 (w : Nat) (l : Nat) (p3 : Int32) (P1 : Int32 → pMem → pT Unit) (x4 : Int32) (M : pMem) : pT Unit := tIf ((f_37 (M w 2) p3) = 0) (tRet () M) (tIf ((kI 24) ≤ x4) (tRet () M) (tIf (x4 = p3) (P1 (x4 + kI 1) M) (tIf ((f_37 (M w 2) x4) = 0) (P1 (x4 + kI 1) M) (tCall (D_166s w p3 x4 M) fun _ M1 => tGd (pIn (kI 8) 14) <| tCall (D_157 l (kI 19) 135 (M1 135 (ix (kI 8))) M1) fun v2 M2 => tCall (D_186 x4 v2 M2) fun _ M3 => P1 (x4 + kI 1) M3))))
def C_185 (w : Nat) (l : Nat) (p3 : Int32) (P1 : Int32 → pMem → pT Unit) : Prop := (∀ (x4 : Int32) M v N, S_185_1 w l p3 P1 x4 M v N → P1 x4 M v N)
def L_185_1 (w : Nat) (l : Nat) (p3 : Int32) (x4 : Int32) (M : pMem) : pT Unit := fun v N => ∀ P : (Int32 → pMem → pT Unit), C_185 w l p3 P → P x4 M v N
def D_185 (w : Nat) (l : Nat) (p3 : Int32) (M : pMem) : pT Unit := tCall (D_240_136 (kI (-1)) M) fun _ M1 => L_185_1 w l p3 (kI 0) M1
theorem K_185 {X : aX} {F d : Nat} {K : Nat → aK} (hS : pS K) {w : Nat} {l : Nat} {p3 : Int32} (hw : pK 10 w = true) (hl : pK 2 l = true) {out : Option Value × aH} (P1 : Int32 → pMem → pT Unit) (hC : C_185 w l p3 P1) : ∀ f, (∀ (x4 : Int32) M, pm X F d 185 f 1 [.aload 1, .getfield 32010008, .iload 3, .invokestatic 995037, .ifCond .eq 7] [.ref 133, .ref w, .ref l, .int p3, .int x4] [] (pH K M) out → pG eU K out (P1 x4 M)) := by
  intro f
  induction f using Nat.strongRecOn with
  | _ f ih =>
    intro x4 M H
    refine pG_mono (fun v N h => hC x4 M v N h) ?_
    unfold S_185_1
    replace H := pRun (ls' := [.ref 133, .ref w, .ref l, .int p3, .int x4]) (st' := [.ref w]) 1 rfl H
    replace H := pGetN (v := M w 2) rfl (by decide) H
    replace H := pRun (ls' := [.ref 133, .ref w, .ref l, .int p3, .int x4]) (st' := [.int p3, .int (M w 2)]) 1 rfl H
    obtain ⟨rv, h1, hc, H⟩ := pCalT 37 2 (as := [.int (M w 2), .int p3]) (rest := []) rfl (by decide) (by decide +kernel) rfl rfl H
    replace H := pUseF (f_37_ok hS hc) H
    rcases pIf0 (n1 := 7) rfl (mcb_185 rfl) (mcb_185 rfl) H with ⟨g1, g0, _, H⟩ | ⟨g1, g0, _, H⟩
    · refine pG_pos (c := (f_37 (M w 2) p3) = 0) g1 ?_
      exact pG_ret (pRetU H)
    · refine pG_neg (c := (f_37 (M w 2) p3) = 0) g1 ?_
      replace H := pRun (ls' := [.ref 133, .ref w, .ref l, .int p3, .int x4]) (st' := [.int (kI 24), .int x4]) 2 rfl H
      rcases pIfc (n1 := 7) rfl (mcb_185 rfl) (mcb_185 rfl) H with ⟨g2, g0, _, H⟩ | ⟨g2, g0, _, H⟩
      · refine pG_pos (c := (kI 24) ≤ x4) g2 ?_
        exact pG_ret (pRetU H)
      · refine pG_neg (c := (kI 24) ≤ x4) g2 ?_
        replace H := pRun (ls' := [.ref 133, .ref w, .ref l, .int p3, .int x4]) (st' := [.int p3, .int x4]) 2 rfl H
        rcases pIfc (n1 := 6) rfl (mcb_185 rfl) (mcb_185 rfl) H with ⟨g3, g0, _, H⟩ | ⟨g3, g0, _, H⟩
        · refine pG_pos (c := x4 = p3) g3 ?_
          replace H := pRun (ls' := [.ref 133, .ref w, .ref l, .int p3, .int (x4 + kI 1)]) (st' := []) 1 rfl H
          obtain ⟨g0, _, H⟩ := pGo (n1 := 1) rfl (mcb_185 rfl) H
          exact (ih _ (by omega)) _  _ H
        · refine pG_neg (c := x4 = p3) g3 ?_
          replace H := pRun (ls' := [.ref 133, .ref w, .ref l, .int p3, .int x4]) (st' := [.ref w]) 1 rfl H
          replace H := pGetN (v := M w 2) rfl (by decide) H
          replace H := pRun (ls' := [.ref 133, .ref w, .ref l, .int p3, .int x4]) (st' := [.int x4, .int (M w 2)]) 1 rfl H
          obtain ⟨rv, h1, hc, H⟩ := pCalT 37 2 (as := [.int (M w 2), .int x4]) (rest := []) rfl (by decide) (by decide +kernel) rfl rfl H
          replace H := pUseF (f_37_ok hS hc) H
          rcases pIf0 (n1 := 6) rfl (mcb_185 rfl) (mcb_185 rfl) H with ⟨g4, g0, _, H⟩ | ⟨g4, g0, _, H⟩
          · refine pG_pos (c := (f_37 (M w 2) x4) = 0) g4 ?_
            replace H := pRun (ls' := [.ref 133, .ref w, .ref l, .int p3, .int (x4 + kI 1)]) (st' := []) 1 rfl H
            obtain ⟨g0, _, H⟩ := pGo (n1 := 1) rfl (mcb_185 rfl) H
            exact (ih _ (by omega)) _  _ H
          · refine pG_neg (c := (f_37 (M w 2) x4) = 0) g4 ?_
            replace H := pRun (ls' := [.ref 133, .ref w, .ref l, .int p3, .int x4]) (st' := [.ref 133]) 1 rfl H
            replace H := pGetR (r := 134) (pRf hS (by decide +kernel)) rfl H
            replace H := pRun (ls' := [.ref 133, .ref w, .ref l, .int p3, .int x4]) (st' := [.int x4, .int p3, .ref w, .ref 134]) 3 rfl H
            obtain ⟨rv, h1, hc, H⟩ := pCalV 166 3 134 (as := [.ref w, .int p3, .int x4]) (rest := []) rfl (by decide) (by decide +kernel) rfl rfl H
            obtain ⟨v1, M1, hD, H⟩ := pUseU (D_166s_ok hS hw hc) H
            refine pG_call (x := v1) (M1 := M1) hD ?_
            replace H := pRun (ls' := [.ref 133, .ref w, .ref l, .int p3, .int x4]) (st' := [.ref 133, .int (kI 19), .ref l, .int x4, .ref 133]) 5 rfl H
            replace H := pGetR (r := 134) (pRf hS (by decide +kernel)) rfl H
            replace H := pGetR (r := 135) (pRf hS (by decide +kernel)) rfl H
            replace H := pRun (ls' := [.ref 133, .ref w, .ref l, .int p3, .int x4]) (st' := [.ref 133, .ref 135, .int (kI 19), .ref l, .int x4, .ref 133]) 1 rfl H
            replace H := pGetR (r := 134) (pRf hS (by decide +kernel)) rfl H
            replace H := pGetR (r := 135) (pRf hS (by decide +kernel)) rfl H
            replace H := pRun (ls' := [.ref 133, .ref w, .ref l, .int p3, .int x4]) (st' := [.int (kI 8), .ref 135, .ref 135, .int (kI 19), .ref l, .int x4, .ref 133]) 1 rfl H
            obtain ⟨g5, H⟩ := pIld (n := 14) (pLt (show pCa 135 14 = true by decide +kernel)) (pLn hS (show pCa 135 14 = true by decide +kernel)) H
            refine pG_gd g5 ?_
            obtain ⟨rv, h1, hc, H⟩ := pCalV 157 3 l (as := [.int (kI 19), .ref 135, .int (M1 135 (ix (kI 8)))]) (rest := [.int x4, .ref 133]) rfl (by decide) (by decide +kernel) rfl rfl H
            obtain ⟨v2, M2, hD, H⟩ := pUseI (D_157_ok hS hl (show pCa 135 14 = true by decide +kernel) hc) H
            refine pG_call (x := v2) (M1 := M2) hD ?_
            obtain ⟨rv, h1, hc, H⟩ := pCalV 186 2 133 (as := [.int x4, .int v2]) (rest := []) rfl (by decide) (by decide +kernel) rfl rfl H
            obtain ⟨v3, M3, hD, H⟩ := pUseU (D_186_ok hS hc) H
            refine pG_call (x := v3) (M1 := M3) hD ?_
            obtain ⟨g0, _, H⟩ := pFall (mcb_185 rfl) H
            replace H := pRun (ls' := [.ref 133, .ref w, .ref l, .int p3, .int (x4 + kI 1)]) (st' := []) 1 rfl H
            obtain ⟨g0, _, H⟩ := pGo (n1 := 1) rfl (mcb_185 rfl) H
            exact (ih _ (by omega)) _  _ H
theorem L_185_1_ok {X : aX} {F d : Nat} {K : Nat → aK} (hS : pS K) {w : Nat} {l : Nat} {p3 : Int32} (hw : pK 10 w = true) (hl : pK 2 l = true) {out : Option Value × aH} {f : Nat} {x4 : Int32} {M : pMem} (H : pm X F d 185 f 1 [.aload 1, .getfield 32010008, .iload 3, .invokestatic 995037, .ifCond .eq 7] [.ref 133, .ref w, .ref l, .int p3, .int x4] [] (pH K M) out) : pG eU K out (L_185_1 w l p3 x4 M) := by
  refine pG_all (C := fun P : (Int32 → pMem → pT Unit) => C_185 w l p3 P) (T := fun P => P x4 M) eU_inj (fun _ _ _ _ => True) ?_ (fun P hP => (K_185 hS hw hl P hP f) _ _ H)
  exact (fun _ _ _ _ _ => trivial)
theorem D_185_ok {X : aX} {F d : Nat} {K : Nat → aK} (hS : pS K) {w : Nat} {l : Nat} {p3 : Int32} (hw : pK 10 w = true) (hl : pK 2 l = true) {M : pMem} {out : Option Value × aH} (H : aM X F d 185 [.ref 133, .ref w, .ref l, .int p3] (pH K M) = some out) : pG eU K out (D_185 w l p3 M) := by
  obtain ⟨d', g0, _, H⟩ := pEnt (n := 5) (ls := [.ref 133, .ref w, .ref l, .int p3, aD]) (mcb_185 rfl) (by decide +kernel) rfl H
  unfold D_185
  replace H := pRun (ls' := [.ref 133, .ref w, .ref l, .int p3, aD]) (st' := [.ref 133]) 1 rfl H
  replace H := pGetR (r := 136) (pRf hS (by decide +kernel)) rfl H
  replace H := pRun (ls' := [.ref 133, .ref w, .ref l, .int p3, aD]) (st' := [.int (kI (-1)), .ref 136]) 1 rfl H
  obtain ⟨rv, h1, hc, H⟩ := pCalT 240 2 (as := [.ref 136, .int (kI (-1))]) (rest := []) rfl (by decide) (by decide +kernel) rfl rfl H
  obtain ⟨v1, M1, hD, H⟩ := pUseU (D_240_136_ok hS hc) H
  refine pG_call (x := v1) (M1 := M1) hD ?_
  replace H := pRun (ls' := [.ref 133, .ref w, .ref l, .int p3, .int (kI 0)]) (st' := []) 2 rfl H
  obtain ⟨g0, _, H⟩ := pFall (mcb_185 rfl) H
  exact L_185_1_ok hS hw hl  H
def l_185 (w : Nat) (l : Nat) : List (Nat × Nat) := []
theorem FC_185 {w : Nat} {l : Nat} {p3 : Int32} (hw : pK 10 w = true) (hl : pK 2 l = true) : C_185 w l p3 (fun _ M _ N => pFr (l_185 w l) M N) := fun x4 M => show pTf (l_185 w l) M (S_185_1 w l p3 _ x4 M) from (tf_if (tf_ret pFr_refl) (tf_if (tf_ret pFr_refl) (tf_if (tf_jump pFr_refl) (tf_if (tf_jump pFr_refl) (tf_call pFr_refl (fun _ _ h => F_166s hw h) [] rfl fun _ M1 f1 => (tf_gd fun g5 => (tf_call f1 (fun _ _ h => F_157 hl (show pCa 135 14 = true by decide +kernel) h) [] rfl fun _ M2 f2 => (tf_call f2 (fun _ _ h => F_186 h) [] rfl fun _ M3 f3 => (tf_jump f3)))))))))
theorem F_185 {w : Nat} {l : Nat} {p3 : Int32} (hw : pK 10 w = true) (hl : pK 2 l = true) {M : pMem} {v : Unit} {N : pMem} (h : D_185 w l p3 M v N) : pFr (l_185 w l) M N :=
  (show pTf (l_185 w l) M (D_185 w l p3 M) from (tf_call pFr_refl (fun _ _ h => F_240_136 h) [] rfl fun _ M1 f1 => (tf_jumpL (fun _ M _ N => pFr (l_185 w l) M N) (FC_185 hw hl) rfl f1))) v N h
/-- TwoCamps$Slips.across(LTwoCamps$Wood;I)I -/
def S_187_1 (w : Nat) (p2 : Int32) (P1 : Int32 → Int32 → pMem → pT Int32) (x3 : Int32) (x4 : Int32) (M : pMem) : pT Int32 := tIf ((kI 3) ≤ x4) (tRet x3 M) (tGd (pIn x4 3) <| tIf ((M 136 (ix x4)) = (kI (-1))) (P1 x3 (x4 + kI 1) M) (tGd (pIn x4 3) <| tIf ((f_225 w (M 136 (ix x4)) M) = (f_225 w p2 M)) (P1 x3 (x4 + kI 1) M) (P1 (x3 + kI 1) (x4 + kI 1) M)))
def C_187 (w : Nat) (p2 : Int32) (P1 : Int32 → Int32 → pMem → pT Int32) : Prop := (∀ (x3 : Int32) (x4 : Int32) M v N, S_187_1 w p2 P1 x3 x4 M v N → P1 x3 x4 M v N)
def L_187_1 (w : Nat) (p2 : Int32) (x3 : Int32) (x4 : Int32) (M : pMem) : pT Int32 := fun v N => ∀ P : (Int32 → Int32 → pMem → pT Int32), C_187 w p2 P → P x3 x4 M v N
def D_187 (w : Nat) (p2 : Int32) (M : pMem) : pT Int32 := L_187_1 w p2 (kI 0) (kI 0) M
theorem K_187 {X : aX} {F d : Nat} {K : Nat → aK} (hS : pS K) {w : Nat} {p2 : Int32} (hw : pK 10 w = true) {out : Option Value × aH} (P1 : Int32 → Int32 → pMem → pT Int32) (hC : C_187 w p2 P1) : ∀ f, (∀ (x3 : Int32) (x4 : Int32) M, pm X F d 187 f 1 [.iload 4, .bipush 3, .if_icmp .ge 6] [.ref 133, .ref w, .int p2, .int x3, .int x4] [] (pH K M) out → pG eI K out (P1 x3 x4 M)) := by
  intro f
  induction f using Nat.strongRecOn with
  | _ f ih =>
    intro x3 x4 M H
    refine pG_mono (fun v N h => hC x3 x4 M v N h) ?_
    unfold S_187_1
    replace H := pRun (ls' := [.ref 133, .ref w, .int p2, .int x3, .int x4]) (st' := [.int (kI 3), .int x4]) 2 rfl H
    rcases pIfc (n1 := 6) rfl (mcb_187 rfl) (mcb_187 rfl) H with ⟨g1, g0, _, H⟩ | ⟨g1, g0, _, H⟩
    · refine pG_pos (c := (kI 3) ≤ x4) g1 ?_
      replace H := pRun (ls' := [.ref 133, .ref w, .int p2, .int x3, .int x4]) (st' := [.int x3]) 1 rfl H
      exact pG_ret (pRetI H)
    · refine pG_neg (c := (kI 3) ≤ x4) g1 ?_
      replace H := pRun (ls' := [.ref 133, .ref w, .int p2, .int x3, .int x4]) (st' := [.ref 133]) 1 rfl H
      replace H := pGetR (r := 136) (pRf hS (by decide +kernel)) rfl H
      replace H := pRun (ls' := [.ref 133, .ref w, .int p2, .int x3, .int x4]) (st' := [.int x4, .ref 136]) 1 rfl H
      obtain ⟨g2, H⟩ := pIld (n := 3) (pLt (show pCa 136 3 = true by decide +kernel)) (pLn hS (show pCa 136 3 = true by decide +kernel)) H
      refine pG_gd g2 ?_
      replace H := pRun (ls' := [.ref 133, .ref w, .int p2, .int x3, .int x4]) (st' := [.int (kI (-1)), .int (M 136 (ix x4))]) 1 rfl H
      rcases pIfc (n1 := 5) rfl (mcb_187 rfl) (mcb_187 rfl) H with ⟨g3, g0, _, H⟩ | ⟨g3, g0, _, H⟩
      · refine pG_pos (c := (M 136 (ix x4)) = (kI (-1))) g3 ?_
        replace H := pRun (ls' := [.ref 133, .ref w, .int p2, .int x3, .int (x4 + kI 1)]) (st' := []) 1 rfl H
        obtain ⟨g0, _, H⟩ := pGo (n1 := 1) rfl (mcb_187 rfl) H
        exact (ih _ (by omega)) _ _  _ H
      · refine pG_neg (c := (M 136 (ix x4)) = (kI (-1))) g3 ?_
        replace H := pRun (ls' := [.ref 133, .ref w, .int p2, .int x3, .int x4]) (st' := [.ref 133, .ref w]) 2 rfl H
        replace H := pGetR (r := 136) (pRf hS (by decide +kernel)) rfl H
        replace H := pRun (ls' := [.ref 133, .ref w, .int p2, .int x3, .int x4]) (st' := [.int x4, .ref 136, .ref w]) 1 rfl H
        obtain ⟨g4, H⟩ := pIld (n := 3) (pLt (show pCa 136 3 = true by decide +kernel)) (pLn hS (show pCa 136 3 = true by decide +kernel)) H
        refine pG_gd g4 ?_
        obtain ⟨rv, h1, hc, H⟩ := pCalV 225 1 w (as := [.int (M 136 (ix x4))]) (rest := []) rfl (by decide) (by decide +kernel) rfl rfl H
        replace H := pUseF (f_225_ok hS hw hc) H
        replace H := pRun (ls' := [.ref 133, .ref w, .int p2, .int x3, .int x4]) (st' := [.int p2, .ref w, .int (f_225 w (M 136 (ix x4)) M)]) 2 rfl H
        obtain ⟨rv, h1, hc, H⟩ := pCalV 225 1 w (as := [.int p2]) (rest := [.int (f_225 w (M 136 (ix x4)) M)]) rfl (by decide) (by decide +kernel) rfl rfl H
        replace H := pUseF (f_225_ok hS hw hc) H
        rcases pIfc (n1 := 5) rfl (mcb_187 rfl) (mcb_187 rfl) H with ⟨g5, g0, _, H⟩ | ⟨g5, g0, _, H⟩
        · refine pG_pos (c := (f_225 w (M 136 (ix x4)) M) = (f_225 w p2 M)) g5 ?_
          replace H := pRun (ls' := [.ref 133, .ref w, .int p2, .int x3, .int (x4 + kI 1)]) (st' := []) 1 rfl H
          obtain ⟨g0, _, H⟩ := pGo (n1 := 1) rfl (mcb_187 rfl) H
          exact (ih _ (by omega)) _ _  _ H
        · refine pG_neg (c := (f_225 w (M 136 (ix x4)) M) = (f_225 w p2 M)) g5 ?_
          replace H := pRun (ls' := [.ref 133, .ref w, .int p2, .int (x3 + kI 1), .int x4]) (st' := []) 1 rfl H
          obtain ⟨g0, _, H⟩ := pFall (mcb_187 rfl) H
          replace H := pRun (ls' := [.ref 133, .ref w, .int p2, .int (x3 + kI 1), .int (x4 + kI 1)]) (st' := []) 1 rfl H
          obtain ⟨g0, _, H⟩ := pGo (n1 := 1) rfl (mcb_187 rfl) H
          exact (ih _ (by omega)) _ _  _ H
theorem L_187_1_ok {X : aX} {F d : Nat} {K : Nat → aK} (hS : pS K) {w : Nat} {p2 : Int32} (hw : pK 10 w = true) {out : Option Value × aH} {f : Nat} {x3 : Int32} {x4 : Int32} {M : pMem} (H : pm X F d 187 f 1 [.iload 4, .bipush 3, .if_icmp .ge 6] [.ref 133, .ref w, .int p2, .int x3, .int x4] [] (pH K M) out) : pG eI K out (L_187_1 w p2 x3 x4 M) := by
  refine pG_all (C := fun P : (Int32 → Int32 → pMem → pT Int32) => C_187 w p2 P) (T := fun P => P x3 x4 M) eI_inj (fun _ _ _ _ _ => True) ?_ (fun P hP => (K_187 hS hw P hP f) _ _ _ H)
  exact (fun _ _ _ _ _ _ => trivial)
theorem D_187_ok {X : aX} {F d : Nat} {K : Nat → aK} (hS : pS K) {w : Nat} {p2 : Int32} (hw : pK 10 w = true) {M : pMem} {out : Option Value × aH} (H : aM X F d 187 [.ref 133, .ref w, .int p2] (pH K M) = some out) : pG eI K out (D_187 w p2 M) := by
  obtain ⟨d', g0, _, H⟩ := pEnt (n := 5) (ls := [.ref 133, .ref w, .int p2, aD, aD]) (mcb_187 rfl) (by decide +kernel) rfl H
  unfold D_187
  replace H := pRun (ls' := [.ref 133, .ref w, .int p2, .int (kI 0), .int (kI 0)]) (st' := []) 4 rfl H
  obtain ⟨g0, _, H⟩ := pFall (mcb_187 rfl) H
  exact L_187_1_ok hS hw  H
def l_187 (w : Nat) : List (Nat × Nat) := []
theorem FC_187 {w : Nat} {p2 : Int32} (hw : pK 10 w = true) : C_187 w p2 (fun _ _ M _ N => pFr (l_187 w) M N) := fun x3 x4 M => show pTf (l_187 w) M (S_187_1 w p2 _ x3 x4 M) from (tf_if (tf_ret pFr_refl) (tf_gd fun g2 => (tf_if (tf_jump pFr_refl) (tf_gd fun g4 => (tf_if (tf_jump pFr_refl) (tf_jump pFr_refl))))))
theorem F_187 {w : Nat} {p2 : Int32} (hw : pK 10 w = true) {M : pMem} {v : Int32} {N : pMem} (h : D_187 w p2 M v N) : pFr (l_187 w) M N :=
  (show pTf (l_187 w) M (D_187 w p2 M) from (tf_jumpL (fun _ _ M _ N => pFr (l_187 w) M N) (FC_187 hw) rfl pFr_refl)) v N h
/-- TwoCamps$Slips.acrossOfLot(LTwoCamps$Wood;LTwoCamps$Law;I)I -/
def S_188_1 (w : Nat) (l : Nat) (p3 : Int32) (P1 : Int32 → Int32 → pMem → pT Int32) (x4 : Int32) (x5 : Int32) (M : pMem) : pT Int32 := tIf ((kI 24) ≤ x5) (tRet x4 M) (tIf ((f_37 (f_226 w p3 M) x5) = 0) (P1 x4 (x5 + kI 1) M) (tCall (D_185 w l x5 M) fun _ M1 => tCall (D_187 w x5 M1) fun v2 M2 => P1 (x4 + v2) (x5 + kI 1) M2))
def C_188 (w : Nat) (l : Nat) (p3 : Int32) (P1 : Int32 → Int32 → pMem → pT Int32) : Prop := (∀ (x4 : Int32) (x5 : Int32) M v N, S_188_1 w l p3 P1 x4 x5 M v N → P1 x4 x5 M v N)
def L_188_1 (w : Nat) (l : Nat) (p3 : Int32) (x4 : Int32) (x5 : Int32) (M : pMem) : pT Int32 := fun v N => ∀ P : (Int32 → Int32 → pMem → pT Int32), C_188 w l p3 P → P x4 x5 M v N
def D_188 (w : Nat) (l : Nat) (p3 : Int32) (M : pMem) : pT Int32 := L_188_1 w l p3 (kI 0) (kI 0) M
theorem K_188 {X : aX} {F d : Nat} {K : Nat → aK} (hS : pS K) {w : Nat} {l : Nat} {p3 : Int32} (hw : pK 10 w = true) (hl : pK 2 l = true) {out : Option Value × aH} (P1 : Int32 → Int32 → pMem → pT Int32) (hC : C_188 w l p3 P1) : ∀ f, (∀ (x4 : Int32) (x5 : Int32) M, pm X F d 188 f 1 [.iload 5, .bipush 24, .if_icmp .ge 5] [.ref 133, .ref w, .ref l, .int p3, .int x4, .int x5] [] (pH K M) out → pG eI K out (P1 x4 x5 M)) := by
  intro f
  induction f using Nat.strongRecOn with
  | _ f ih =>
    intro x4 x5 M H
    refine pG_mono (fun v N h => hC x4 x5 M v N h) ?_
    unfold S_188_1
    replace H := pRun (ls' := [.ref 133, .ref w, .ref l, .int p3, .int x4, .int x5]) (st' := [.int (kI 24), .int x5]) 2 rfl H
    rcases pIfc (n1 := 5) rfl (mcb_188 rfl) (mcb_188 rfl) H with ⟨g1, g0, _, H⟩ | ⟨g1, g0, _, H⟩
    · refine pG_pos (c := (kI 24) ≤ x5) g1 ?_
      replace H := pRun (ls' := [.ref 133, .ref w, .ref l, .int p3, .int x4, .int x5]) (st' := [.int x4]) 1 rfl H
      exact pG_ret (pRetI H)
    · refine pG_neg (c := (kI 24) ≤ x5) g1 ?_
      replace H := pRun (ls' := [.ref 133, .ref w, .ref l, .int p3, .int x4, .int x5]) (st' := [.int p3, .ref w]) 2 rfl H
      obtain ⟨rv, h1, hc, H⟩ := pCalV 226 1 w (as := [.int p3]) (rest := []) rfl (by decide) (by decide +kernel) rfl rfl H
      replace H := pUseF (f_226_ok hS hw hc) H
      replace H := pRun (ls' := [.ref 133, .ref w, .ref l, .int p3, .int x4, .int x5]) (st' := [.int x5, .int (f_226 w p3 M)]) 1 rfl H
      obtain ⟨rv, h1, hc, H⟩ := pCalT 37 2 (as := [.int (f_226 w p3 M), .int x5]) (rest := []) rfl (by decide) (by decide +kernel) rfl rfl H
      replace H := pUseF (f_37_ok hS hc) H
      rcases pIf0 (n1 := 4) rfl (mcb_188 rfl) (mcb_188 rfl) H with ⟨g2, g0, _, H⟩ | ⟨g2, g0, _, H⟩
      · refine pG_pos (c := (f_37 (f_226 w p3 M) x5) = 0) g2 ?_
        replace H := pRun (ls' := [.ref 133, .ref w, .ref l, .int p3, .int x4, .int (x5 + kI 1)]) (st' := []) 1 rfl H
        obtain ⟨g0, _, H⟩ := pGo (n1 := 1) rfl (mcb_188 rfl) H
        exact (ih _ (by omega)) _ _  _ H
      · refine pG_neg (c := (f_37 (f_226 w p3 M) x5) = 0) g2 ?_
        replace H := pRun (ls' := [.ref 133, .ref w, .ref l, .int p3, .int x4, .int x5]) (st' := [.int x5, .ref l, .ref w, .ref 133]) 4 rfl H
        obtain ⟨rv, h1, hc, H⟩ := pCalV 185 3 133 (as := [.ref w, .ref l, .int x5]) (rest := []) rfl (by decide) (by decide +kernel) rfl rfl H
        obtain ⟨v1, M1, hD, H⟩ := pUseU (D_185_ok hS hw hl hc) H
        refine pG_call (x := v1) (M1 := M1) hD ?_
        replace H := pRun (ls' := [.ref 133, .ref w, .ref l, .int p3, .int x4, .int x5]) (st' := [.int x5, .ref w, .ref 133, .int x4]) 4 rfl H
        obtain ⟨rv, h1, hc, H⟩ := pCalV 187 2 133 (as := [.ref w, .int x5]) (rest := [.int x4]) rfl (by decide) (by decide +kernel) rfl rfl H
        obtain ⟨v2, M2, hD, H⟩ := pUseI (D_187_ok hS hw hc) H
        refine pG_call (x := v2) (M1 := M2) hD ?_
        replace H := pRun (ls' := [.ref 133, .ref w, .ref l, .int p3, .int (x4 + v2), .int x5]) (st' := []) 2 rfl H
        obtain ⟨g0, _, H⟩ := pFall (mcb_188 rfl) H
        replace H := pRun (ls' := [.ref 133, .ref w, .ref l, .int p3, .int (x4 + v2), .int (x5 + kI 1)]) (st' := []) 1 rfl H
        obtain ⟨g0, _, H⟩ := pGo (n1 := 1) rfl (mcb_188 rfl) H
        exact (ih _ (by omega)) _ _  _ H
theorem L_188_1_ok {X : aX} {F d : Nat} {K : Nat → aK} (hS : pS K) {w : Nat} {l : Nat} {p3 : Int32} (hw : pK 10 w = true) (hl : pK 2 l = true) {out : Option Value × aH} {f : Nat} {x4 : Int32} {x5 : Int32} {M : pMem} (H : pm X F d 188 f 1 [.iload 5, .bipush 24, .if_icmp .ge 5] [.ref 133, .ref w, .ref l, .int p3, .int x4, .int x5] [] (pH K M) out) : pG eI K out (L_188_1 w l p3 x4 x5 M) := by
  refine pG_all (C := fun P : (Int32 → Int32 → pMem → pT Int32) => C_188 w l p3 P) (T := fun P => P x4 x5 M) eI_inj (fun _ _ _ _ _ => True) ?_ (fun P hP => (K_188 hS hw hl P hP f) _ _ _ H)
  exact (fun _ _ _ _ _ _ => trivial)
theorem D_188_ok {X : aX} {F d : Nat} {K : Nat → aK} (hS : pS K) {w : Nat} {l : Nat} {p3 : Int32} (hw : pK 10 w = true) (hl : pK 2 l = true) {M : pMem} {out : Option Value × aH} (H : aM X F d 188 [.ref 133, .ref w, .ref l, .int p3] (pH K M) = some out) : pG eI K out (D_188 w l p3 M) := by
  obtain ⟨d', g0, _, H⟩ := pEnt (n := 6) (ls := [.ref 133, .ref w, .ref l, .int p3, aD, aD]) (mcb_188 rfl) (by decide +kernel) rfl H
  unfold D_188
  replace H := pRun (ls' := [.ref 133, .ref w, .ref l, .int p3, .int (kI 0), .int (kI 0)]) (st' := []) 4 rfl H
  obtain ⟨g0, _, H⟩ := pFall (mcb_188 rfl) H
  exact L_188_1_ok hS hw hl  H
def l_188 (w : Nat) (l : Nat) : List (Nat × Nat) := []
theorem FC_188 {w : Nat} {l : Nat} {p3 : Int32} (hw : pK 10 w = true) (hl : pK 2 l = true) : C_188 w l p3 (fun _ _ M _ N => pFr (l_188 w l) M N) := fun x4 x5 M => show pTf (l_188 w l) M (S_188_1 w l p3 _ x4 x5 M) from (tf_if (tf_ret pFr_refl) (tf_if (tf_jump pFr_refl) (tf_call pFr_refl (fun _ _ h => F_185 hw hl h) [] rfl fun _ M1 f1 => (tf_call f1 (fun _ _ h => F_187 hw h) [] rfl fun _ M2 f2 => (tf_jump f2)))))
theorem F_188 {w : Nat} {l : Nat} {p3 : Int32} (hw : pK 10 w = true) (hl : pK 2 l = true) {M : pMem} {v : Int32} {N : pMem} (h : D_188 w l p3 M v N) : pFr (l_188 w l) M N :=
  (show pTf (l_188 w l) M (D_188 w l p3 M) from (tf_jumpL (fun _ _ M _ N => pFr (l_188 w l) M N) (FC_188 hw hl) rfl pFr_refl)) v N h
/-- TwoCamps$Slips.chosenBy(LTwoCamps$Wood;LTwoCamps$Law;I)I -/
def S_189_1 (w : Nat) (l : Nat) (p3 : Int32) (P1 : Int32 → Int32 → pMem → pT Int32) (P3 : Int32 → Int32 → Int32 → pMem → pT Int32) (x4 : Int32) (x5 : Int32) (M : pMem) : pT Int32 := tIf ((kI 24) ≤ x5) (tRet x4 M) (tCall (D_185 w l x5 M) fun _ M1 => P3 x4 x5 (kI 0) M1)
def S_189_3 (w : Nat) (l : Nat) (p3 : Int32) (P1 : Int32 → Int32 → pMem → pT Int32) (P3 : Int32 → Int32 → Int32 → pMem → pT Int32) (x4 : Int32) (x5 : Int32) (x6 : Int32) (M : pMem) : pT Int32 := tIf ((kI 3) ≤ x6) (P1 x4 (x5 + kI 1) M) (tGd (pIn x6 3) <| tIf (¬ (M 136 (ix x6)) = p3) (P3 (x4 + (kI 0)) x5 (x6 + kI 1) M) (P3 (x4 + (kI 1)) x5 (x6 + kI 1) M))
def C_189 (w : Nat) (l : Nat) (p3 : Int32) (P1 : Int32 → Int32 → pMem → pT Int32) (P3 : Int32 → Int32 → Int32 → pMem → pT Int32) : Prop := (∀ (x4 : Int32) (x5 : Int32) M v N, S_189_1 w l p3 P1 P3 x4 x5 M v N → P1 x4 x5 M v N) ∧ (∀ (x4 : Int32) (x5 : Int32) (x6 : Int32) M v N, S_189_3 w l p3 P1 P3 x4 x5 x6 M v N → P3 x4 x5 x6 M v N)
def L_189_1 (w : Nat) (l : Nat) (p3 : Int32) (x4 : Int32) (x5 : Int32) (M : pMem) : pT Int32 := fun v N => ∀ P : (Int32 → Int32 → pMem → pT Int32) × (Int32 → Int32 → Int32 → pMem → pT Int32), C_189 w l p3 P.1 P.2 → P.1 x4 x5 M v N
def L_189_3 (w : Nat) (l : Nat) (p3 : Int32) (x4 : Int32) (x5 : Int32) (x6 : Int32) (M : pMem) : pT Int32 := fun v N => ∀ P : (Int32 → Int32 → pMem → pT Int32) × (Int32 → Int32 → Int32 → pMem → pT Int32), C_189 w l p3 P.1 P.2 → P.2 x4 x5 x6 M v N
def D_189 (w : Nat) (l : Nat) (p3 : Int32) (M : pMem) : pT Int32 := L_189_1 w l p3 (kI 0) (kI 0) M
theorem K_189 {X : aX} {F d : Nat} {K : Nat → aK} (hS : pS K) {w : Nat} {l : Nat} {p3 : Int32} (hw : pK 10 w = true) (hl : pK 2 l = true) {out : Option Value × aH} (P1 : Int32 → Int32 → pMem → pT Int32) (P3 : Int32 → Int32 → Int32 → pMem → pT Int32) (hC : C_189 w l p3 P1 P3) : ∀ f, (∀ (x4 : Int32) (x5 : Int32) (u6 : Value) M, pm X F d 189 f 1 [.iload 5, .bipush 24, .if_icmp .ge 9] [.ref 133, .ref w, .ref l, .int p3, .int x4, .int x5, u6] [] (pH K M) out → pG eI K out (P1 x4 x5 M)) ∧ (∀ (x4 : Int32) (x5 : Int32) (x6 : Int32) M, pm X F d 189 f 3 [.iload 6, .bipush 3, .if_icmp .ge 8] [.ref 133, .ref w, .ref l, .int p3, .int x4, .int x5, .int x6] [] (pH K M) out → pG eI K out (P3 x4 x5 x6 M)) := by
  intro f
  induction f using Nat.strongRecOn with
  | _ f ih =>
    refine ⟨?_, ?_⟩
    · intro x4 x5 u6 M H
      refine pG_mono (fun v N h => hC.1 x4 x5 M v N h) ?_
      unfold S_189_1
      replace H := pRun (ls' := [.ref 133, .ref w, .ref l, .int p3, .int x4, .int x5, u6]) (st' := [.int (kI 24), .int x5]) 2 rfl H
      rcases pIfc (n1 := 9) rfl (mcb_189 rfl) (mcb_189 rfl) H with ⟨g1, g0, _, H⟩ | ⟨g1, g0, _, H⟩
      · refine pG_pos (c := (kI 24) ≤ x5) g1 ?_
        replace H := pRun (ls' := [.ref 133, .ref w, .ref l, .int p3, .int x4, .int x5, u6]) (st' := [.int x4]) 1 rfl H
        exact pG_ret (pRetI H)
      · refine pG_neg (c := (kI 24) ≤ x5) g1 ?_
        replace H := pRun (ls' := [.ref 133, .ref w, .ref l, .int p3, .int x4, .int x5, u6]) (st' := [.int x5, .ref l, .ref w, .ref 133]) 4 rfl H
        obtain ⟨rv, h1, hc, H⟩ := pCalV 185 3 133 (as := [.ref w, .ref l, .int x5]) (rest := []) rfl (by decide) (by decide +kernel) rfl rfl H
        obtain ⟨v1, M1, hD, H⟩ := pUseU (D_185_ok hS hw hl hc) H
        refine pG_call (x := v1) (M1 := M1) hD ?_
        replace H := pRun (ls' := [.ref 133, .ref w, .ref l, .int p3, .int x4, .int x5, .int (kI 0)]) (st' := []) 2 rfl H
        obtain ⟨g0, _, H⟩ := pFall (mcb_189 rfl) H
        exact (ih _ (by omega)).2 _ _ _  _ H
    · intro x4 x5 x6 M H
      refine pG_mono (fun v N h => hC.2 x4 x5 x6 M v N h) ?_
      unfold S_189_3
      replace H := pRun (ls' := [.ref 133, .ref w, .ref l, .int p3, .int x4, .int x5, .int x6]) (st' := [.int (kI 3), .int x6]) 2 rfl H
      rcases pIfc (n1 := 8) rfl (mcb_189 rfl) (mcb_189 rfl) H with ⟨g1, g0, _, H⟩ | ⟨g1, g0, _, H⟩
      · refine pG_pos (c := (kI 3) ≤ x6) g1 ?_
        replace H := pRun (ls' := [.ref 133, .ref w, .ref l, .int p3, .int x4, .int (x5 + kI 1), .int x6]) (st' := []) 1 rfl H
        obtain ⟨g0, _, H⟩ := pGo (n1 := 1) rfl (mcb_189 rfl) H
        exact (ih _ (by omega)).1 _ _ _  _ H
      · refine pG_neg (c := (kI 3) ≤ x6) g1 ?_
        replace H := pRun (ls' := [.ref 133, .ref w, .ref l, .int p3, .int x4, .int x5, .int x6]) (st' := [.ref 133, .int x4]) 2 rfl H
        replace H := pGetR (r := 136) (pRf hS (by decide +kernel)) rfl H
        replace H := pRun (ls' := [.ref 133, .ref w, .ref l, .int p3, .int x4, .int x5, .int x6]) (st' := [.int x6, .ref 136, .int x4]) 1 rfl H
        obtain ⟨g2, H⟩ := pIld (n := 3) (pLt (show pCa 136 3 = true by decide +kernel)) (pLn hS (show pCa 136 3 = true by decide +kernel)) H
        refine pG_gd g2 ?_
        replace H := pRun (ls' := [.ref 133, .ref w, .ref l, .int p3, .int x4, .int x5, .int x6]) (st' := [.int p3, .int (M 136 (ix x6)), .int x4]) 1 rfl H
        rcases pIfc (n1 := 6) rfl (mcb_189 rfl) (mcb_189 rfl) H with ⟨g3, g0, _, H⟩ | ⟨g3, g0, _, H⟩
        · refine pG_pos (c := ¬ (M 136 (ix x6)) = p3) g3 ?_
          replace H := pRun (ls' := [.ref 133, .ref w, .ref l, .int p3, .int x4, .int x5, .int x6]) (st' := [.int (kI 0), .int x4]) 1 rfl H
          obtain ⟨g0, _, H⟩ := pFall (mcb_189 rfl) H
          replace H := pRun (ls' := [.ref 133, .ref w, .ref l, .int p3, .int (x4 + (kI 0)), .int x5, .int (x6 + kI 1)]) (st' := []) 3 rfl H
          obtain ⟨g0, _, H⟩ := pGo (n1 := 3) rfl (mcb_189 rfl) H
          exact (ih _ (by omega)).2 _ _ _  _ H
        · refine pG_neg (c := ¬ (M 136 (ix x6)) = p3) g3 ?_
          replace H := pRun (ls' := [.ref 133, .ref w, .ref l, .int p3, .int x4, .int x5, .int x6]) (st' := [.int (kI 1), .int x4]) 1 rfl H
          obtain ⟨g0, _, H⟩ := pGo (n1 := 7) rfl (mcb_189 rfl) H
          replace H := pRun (ls' := [.ref 133, .ref w, .ref l, .int p3, .int (x4 + (kI 1)), .int x5, .int (x6 + kI 1)]) (st' := []) 3 rfl H
          obtain ⟨g0, _, H⟩ := pGo (n1 := 3) rfl (mcb_189 rfl) H
          exact (ih _ (by omega)).2 _ _ _  _ H
theorem L_189_1_ok {X : aX} {F d : Nat} {K : Nat → aK} (hS : pS K) {w : Nat} {l : Nat} {p3 : Int32} (hw : pK 10 w = true) (hl : pK 2 l = true) {out : Option Value × aH} {f : Nat} {x4 : Int32} {x5 : Int32} {u6 : Value} {M : pMem} (H : pm X F d 189 f 1 [.iload 5, .bipush 24, .if_icmp .ge 9] [.ref 133, .ref w, .ref l, .int p3, .int x4, .int x5, u6] [] (pH K M) out) : pG eI K out (L_189_1 w l p3 x4 x5 M) := by
  refine pG_all (C := fun P : (Int32 → Int32 → pMem → pT Int32) × (Int32 → Int32 → Int32 → pMem → pT Int32) => C_189 w l p3 P.1 P.2) (T := fun P => P.1 x4 x5 M) eI_inj ((fun _ _ _ _ _ => True), (fun _ _ _ _ _ _ => True)) ?_ (fun P hP => (K_189 hS hw hl P.1 P.2 hP f).1 _ _ _ _ H)
  exact ⟨(fun _ _ _ _ _ _ => trivial), (fun _ _ _ _ _ _ _ => trivial)⟩
theorem L_189_3_ok {X : aX} {F d : Nat} {K : Nat → aK} (hS : pS K) {w : Nat} {l : Nat} {p3 : Int32} (hw : pK 10 w = true) (hl : pK 2 l = true) {out : Option Value × aH} {f : Nat} {x4 : Int32} {x5 : Int32} {x6 : Int32} {M : pMem} (H : pm X F d 189 f 3 [.iload 6, .bipush 3, .if_icmp .ge 8] [.ref 133, .ref w, .ref l, .int p3, .int x4, .int x5, .int x6] [] (pH K M) out) : pG eI K out (L_189_3 w l p3 x4 x5 x6 M) := by
  refine pG_all (C := fun P : (Int32 → Int32 → pMem → pT Int32) × (Int32 → Int32 → Int32 → pMem → pT Int32) => C_189 w l p3 P.1 P.2) (T := fun P => P.2 x4 x5 x6 M) eI_inj ((fun _ _ _ _ _ => True), (fun _ _ _ _ _ _ => True)) ?_ (fun P hP => (K_189 hS hw hl P.1 P.2 hP f).2 _ _ _ _ H)
  exact ⟨(fun _ _ _ _ _ _ => trivial), (fun _ _ _ _ _ _ _ => trivial)⟩
theorem D_189_ok {X : aX} {F d : Nat} {K : Nat → aK} (hS : pS K) {w : Nat} {l : Nat} {p3 : Int32} (hw : pK 10 w = true) (hl : pK 2 l = true) {M : pMem} {out : Option Value × aH} (H : aM X F d 189 [.ref 133, .ref w, .ref l, .int p3] (pH K M) = some out) : pG eI K out (D_189 w l p3 M) := by
  obtain ⟨d', g0, _, H⟩ := pEnt (n := 7) (ls := [.ref 133, .ref w, .ref l, .int p3, aD, aD, aD]) (mcb_189 rfl) (by decide +kernel) rfl H
  unfold D_189
  replace H := pRun (ls' := [.ref 133, .ref w, .ref l, .int p3, .int (kI 0), .int (kI 0), aD]) (st' := []) 4 rfl H
  obtain ⟨g0, _, H⟩ := pFall (mcb_189 rfl) H
  exact L_189_1_ok hS hw hl  H
def l_189 (w : Nat) (l : Nat) : List (Nat × Nat) := []
theorem FC_189 {w : Nat} {l : Nat} {p3 : Int32} (hw : pK 10 w = true) (hl : pK 2 l = true) : C_189 w l p3 (fun _ _ M _ N => pFr (l_189 w l) M N) (fun _ _ _ M _ N => pFr (l_189 w l) M N) := ⟨fun x4 x5 M => show pTf (l_189 w l) M (S_189_1 w l p3 _ _ x4 x5 M) from (tf_if (tf_ret pFr_refl) (tf_call pFr_refl (fun _ _ h => F_185 hw hl h) [] rfl fun _ M1 f1 => (tf_jump f1))), fun x4 x5 x6 M => show pTf (l_189 w l) M (S_189_3 w l p3 _ _ x4 x5 x6 M) from (tf_if (tf_jump pFr_refl) (tf_gd fun g2 => (tf_if (tf_jump pFr_refl) (tf_jump pFr_refl))))⟩
theorem F_189 {w : Nat} {l : Nat} {p3 : Int32} (hw : pK 10 w = true) (hl : pK 2 l = true) {M : pMem} {v : Int32} {N : pMem} (h : D_189 w l p3 M v N) : pFr (l_189 w l) M N :=
  (show pTf (l_189 w l) M (D_189 w l p3 M) from (tf_jumpL (fun _ _ M _ N => pFr (l_189 w l) M N, fun _ _ _ M _ N => pFr (l_189 w l) M N) (FC_189 hw hl) rfl pFr_refl)) v N h
/-- TwoCamps$Slips.settleLoyal(LTwoCamps$Wood;LTwoCamps$Law;)V -/
def S_190_1 (w : Nat) (l : Nat) (P1 : Int32 → pMem → pT Unit) (x3 : Int32) (M : pMem) : pT Unit := tIf ((kI 24) ≤ x3) (tRet () M) (tIf ((f_37 ((M w 2) &&& (M w 3)) x3) = 0) (P1 (x3 + kI 1) M) (tCall (D_185 w l x3 M) fun _ M1 => tCall (D_187 w x3 M1) fun v2 M2 => tIf (¬ v2 = 0) (P1 (x3 + kI 1) M2) (tPut (aPut M2 w 3 ((M2 w 3) &&& (((kI 1) <<< (x3 &&& 31)) ^^^ (kI (-1))))) fun M3 => P1 (x3 + kI 1) M3)))
def C_190 (w : Nat) (l : Nat) (P1 : Int32 → pMem → pT Unit) : Prop := (∀ (x3 : Int32) M v N, S_190_1 w l P1 x3 M v N → P1 x3 M v N)
def L_190_1 (w : Nat) (l : Nat) (x3 : Int32) (M : pMem) : pT Unit := fun v N => ∀ P : (Int32 → pMem → pT Unit), C_190 w l P → P x3 M v N
def D_190 (w : Nat) (l : Nat) (M : pMem) : pT Unit := L_190_1 w l (kI 0) M
theorem K_190 {X : aX} {F d : Nat} {K : Nat → aK} (hS : pS K) {w : Nat} {l : Nat} (hw : pK 10 w = true) (hl : pK 2 l = true) {out : Option Value × aH} (P1 : Int32 → pMem → pT Unit) (hC : C_190 w l P1) : ∀ f, (∀ (x3 : Int32) M, pm X F d 190 f 1 [.iload 3, .bipush 24, .if_icmp .ge 6] [.ref 133, .ref w, .ref l, .int x3] [] (pH K M) out → pG eU K out (P1 x3 M)) := by
  intro f
  induction f using Nat.strongRecOn with
  | _ f ih =>
    intro x3 M H
    refine pG_mono (fun v N h => hC x3 M v N h) ?_
    unfold S_190_1
    replace H := pRun (ls' := [.ref 133, .ref w, .ref l, .int x3]) (st' := [.int (kI 24), .int x3]) 2 rfl H
    rcases pIfc (n1 := 6) rfl (mcb_190 rfl) (mcb_190 rfl) H with ⟨g1, g0, _, H⟩ | ⟨g1, g0, _, H⟩
    · refine pG_pos (c := (kI 24) ≤ x3) g1 ?_
      exact pG_ret (pRetU H)
    · refine pG_neg (c := (kI 24) ≤ x3) g1 ?_
      replace H := pRun (ls' := [.ref 133, .ref w, .ref l, .int x3]) (st' := [.ref w]) 1 rfl H
      replace H := pGetN (v := M w 2) rfl (by decide) H
      replace H := pRun (ls' := [.ref 133, .ref w, .ref l, .int x3]) (st' := [.ref w, .int (M w 2)]) 1 rfl H
      replace H := pGetN (v := M w 3) rfl (by decide) H
      replace H := pRun (ls' := [.ref 133, .ref w, .ref l, .int x3]) (st' := [.int x3, .int ((M w 2) &&& (M w 3))]) 2 rfl H
      obtain ⟨rv, h1, hc, H⟩ := pCalT 37 2 (as := [.int ((M w 2) &&& (M w 3)), .int x3]) (rest := []) rfl (by decide) (by decide +kernel) rfl rfl H
      replace H := pUseF (f_37_ok hS hc) H
      rcases pIf0 (n1 := 5) rfl (mcb_190 rfl) (mcb_190 rfl) H with ⟨g2, g0, _, H⟩ | ⟨g2, g0, _, H⟩
      · refine pG_pos (c := (f_37 ((M w 2) &&& (M w 3)) x3) = 0) g2 ?_
        replace H := pRun (ls' := [.ref 133, .ref w, .ref l, .int (x3 + kI 1)]) (st' := []) 1 rfl H
        obtain ⟨g0, _, H⟩ := pGo (n1 := 1) rfl (mcb_190 rfl) H
        exact (ih _ (by omega)) _  _ H
      · refine pG_neg (c := (f_37 ((M w 2) &&& (M w 3)) x3) = 0) g2 ?_
        replace H := pRun (ls' := [.ref 133, .ref w, .ref l, .int x3]) (st' := [.int x3, .ref l, .ref w, .ref 133]) 4 rfl H
        obtain ⟨rv, h1, hc, H⟩ := pCalV 185 3 133 (as := [.ref w, .ref l, .int x3]) (rest := []) rfl (by decide) (by decide +kernel) rfl rfl H
        obtain ⟨v1, M1, hD, H⟩ := pUseU (D_185_ok hS hw hl hc) H
        refine pG_call (x := v1) (M1 := M1) hD ?_
        replace H := pRun (ls' := [.ref 133, .ref w, .ref l, .int x3]) (st' := [.int x3, .ref w, .ref 133]) 3 rfl H
        obtain ⟨rv, h1, hc, H⟩ := pCalV 187 2 133 (as := [.ref w, .int x3]) (rest := []) rfl (by decide) (by decide +kernel) rfl rfl H
        obtain ⟨v2, M2, hD, H⟩ := pUseI (D_187_ok hS hw hc) H
        refine pG_call (x := v2) (M1 := M2) hD ?_
        rcases pIf0 (n1 := 5) rfl (mcb_190 rfl) (mcb_190 rfl) H with ⟨g3, g0, _, H⟩ | ⟨g3, g0, _, H⟩
        · refine pG_pos (c := ¬ v2 = 0) g3 ?_
          replace H := pRun (ls' := [.ref 133, .ref w, .ref l, .int (x3 + kI 1)]) (st' := []) 1 rfl H
          obtain ⟨g0, _, H⟩ := pGo (n1 := 1) rfl (mcb_190 rfl) H
          exact (ih _ (by omega)) _  _ H
        · refine pG_neg (c := ¬ v2 = 0) g3 ?_
          replace H := pRun (ls' := [.ref 133, .ref w, .ref l, .int x3]) (st' := [.ref w, .ref w]) 2 rfl H
          replace H := pGetN (v := M2 w 3) rfl (by decide) H
          replace H := pRun (ls' := [.ref 133, .ref w, .ref l, .int x3]) (st' := [.int ((M2 w 3) &&& (((kI 1) <<< (x3 &&& 31)) ^^^ (kI (-1)))), .ref w]) 6 rfl H
          obtain ⟨M3, eM3, H⟩ := pPutN (j := 3) rfl H
          refine pG_put (M2 := M3) eM3 ?_
          obtain ⟨g0, _, H⟩ := pFall (mcb_190 rfl) H
          replace H := pRun (ls' := [.ref 133, .ref w, .ref l, .int (x3 + kI 1)]) (st' := []) 1 rfl H
          obtain ⟨g0, _, H⟩ := pGo (n1 := 1) rfl (mcb_190 rfl) H
          exact (ih _ (by omega)) _  _ H
theorem L_190_1_ok {X : aX} {F d : Nat} {K : Nat → aK} (hS : pS K) {w : Nat} {l : Nat} (hw : pK 10 w = true) (hl : pK 2 l = true) {out : Option Value × aH} {f : Nat} {x3 : Int32} {M : pMem} (H : pm X F d 190 f 1 [.iload 3, .bipush 24, .if_icmp .ge 6] [.ref 133, .ref w, .ref l, .int x3] [] (pH K M) out) : pG eU K out (L_190_1 w l x3 M) := by
  refine pG_all (C := fun P : (Int32 → pMem → pT Unit) => C_190 w l P) (T := fun P => P x3 M) eU_inj (fun _ _ _ _ => True) ?_ (fun P hP => (K_190 hS hw hl P hP f) _ _ H)
  exact (fun _ _ _ _ _ => trivial)
theorem D_190_ok {X : aX} {F d : Nat} {K : Nat → aK} (hS : pS K) {w : Nat} {l : Nat} (hw : pK 10 w = true) (hl : pK 2 l = true) {M : pMem} {out : Option Value × aH} (H : aM X F d 190 [.ref 133, .ref w, .ref l] (pH K M) = some out) : pG eU K out (D_190 w l M) := by
  obtain ⟨d', g0, _, H⟩ := pEnt (n := 4) (ls := [.ref 133, .ref w, .ref l, aD]) (mcb_190 rfl) (by decide +kernel) rfl H
  unfold D_190
  replace H := pRun (ls' := [.ref 133, .ref w, .ref l, .int (kI 0)]) (st' := []) 2 rfl H
  obtain ⟨g0, _, H⟩ := pFall (mcb_190 rfl) H
  exact L_190_1_ok hS hw hl  H
def l_190 (w : Nat) (l : Nat) : List (Nat × Nat) := [(w, 3)]
theorem FC_190 {w : Nat} {l : Nat} (hw : pK 10 w = true) (hl : pK 2 l = true) : C_190 w l (fun _ M _ N => pFr (l_190 w l) M N) := fun x3 M => show pTf (l_190 w l) M (S_190_1 w l _ x3 M) from (tf_if (tf_ret pFr_refl) (tf_if (tf_jump pFr_refl) (tf_call pFr_refl (fun _ _ h => F_185 hw hl h) [] rfl fun _ M1 f1 => (tf_call f1 (fun _ _ h => F_187 hw h) [] rfl fun _ M2 f2 => (tf_if (tf_jump f2) (tf_put f2 0 rfl fun M3 f3 => (tf_jump f3)))))))
theorem F_190 {w : Nat} {l : Nat} (hw : pK 10 w = true) (hl : pK 2 l = true) {M : pMem} {v : Unit} {N : pMem} (h : D_190 w l M v N) : pFr (l_190 w l) M N :=
  (show pTf (l_190 w l) M (D_190 w l M) from (tf_jumpL (fun _ M _ N => pFr (l_190 w l) M N) (FC_190 hw hl) rfl pFr_refl)) v N h
/-- TwoCamps$Slips.beansSeen(LTwoCamps$Wood;LTwoCamps$Law;III)I -/
def D_191 (w : Nat) (l : Nat) (p3 : Int32) (p4 : Int32) (p5 : Int32) (M : pMem) : pT Int32 := tCall (D_166s w p3 p4 M) fun _ M1 => tCall (D_157 l (kI 18) 135 (kI 0) M1) fun v2 M2 => tRet (f_39 ((Int32.toInt64 p5) + (Int32.toInt64 v2)) (kI 0) (kI 9999)) M2
theorem D_191_ok {X : aX} {F d : Nat} {K : Nat → aK} (hS : pS K) {w : Nat} {l : Nat} {p3 : Int32} {p4 : Int32} {p5 : Int32} (hw : pK 10 w = true) (hl : pK 2 l = true) {M : pMem} {out : Option Value × aH} (H : aM X F d 191 [.ref 133, .ref w, .ref l, .int p3, .int p4, .int p5] (pH K M) = some out) : pG eI K out (D_191 w l p3 p4 p5 M) := by
  obtain ⟨d', g0, _, H⟩ := pEnt (n := 8) (ls := [.ref 133, .ref w, .ref l, .int p3, .int p4, .int p5, aD, aD]) (mcb_191 rfl) (by decide +kernel) rfl H
  unfold D_191
  replace H := pRun (ls' := [.ref 133, .ref w, .ref l, .int p3, .int p4, .int p5, aD, aD]) (st' := [.ref 133]) 1 rfl H
  replace H := pGetR (r := 134) (pRf hS (by decide +kernel)) rfl H
  replace H := pRun (ls' := [.ref 133, .ref w, .ref l, .int p3, .int p4, .int p5, aD, aD]) (st' := [.int p4, .int p3, .ref w, .ref 134]) 3 rfl H
  obtain ⟨rv, h1, hc, H⟩ := pCalV 166 3 134 (as := [.ref w, .int p3, .int p4]) (rest := []) rfl (by decide) (by decide +kernel) rfl rfl H
  obtain ⟨v1, M1, hD, H⟩ := pUseU (D_166s_ok hS hw hc) H
  refine pG_call (x := v1) (M1 := M1) hD ?_
  replace H := pRun (ls' := [.ref 133, .ref w, .ref l, .int p3, .int p4, .int p5, aD, aD]) (st' := [.ref 133, .int (kI 18), .ref l]) 3 rfl H
  replace H := pGetR (r := 134) (pRf hS (by decide +kernel)) rfl H
  replace H := pGetR (r := 135) (pRf hS (by decide +kernel)) rfl H
  replace H := pRun (ls' := [.ref 133, .ref w, .ref l, .int p3, .int p4, .int p5, aD, aD]) (st' := [.int (kI 0), .ref 135, .int (kI 18), .ref l]) 1 rfl H
  obtain ⟨rv, h1, hc, H⟩ := pCalV 157 3 l (as := [.int (kI 18), .ref 135, .int (kI 0)]) (rest := []) rfl (by decide) (by decide +kernel) rfl rfl H
  obtain ⟨v2, M2, hD, H⟩ := pUseI (D_157_ok hS hl (show pCa 135 14 = true by decide +kernel) hc) H
  refine pG_call (x := v2) (M1 := M2) hD ?_
  replace H := pRun (ls' := [.ref 133, .ref w, .ref l, .int p3, .int p4, .int p5, .long (Int32.toInt64 v2), aD]) (st' := [.int (kI 9999), .int (kI 0), .long ((Int32.toInt64 p5) + (Int32.toInt64 v2))]) 8 rfl H
  obtain ⟨rv, h1, hc, H⟩ := pCalT 39 3 (as := [.long ((Int32.toInt64 p5) + (Int32.toInt64 v2)), .int (kI 0), .int (kI 9999)]) (rest := []) rfl (by decide) (by decide +kernel) rfl rfl H
  replace H := pUseF (f_39_ok hS hc) H
  exact pG_ret (pRetI H)
def l_191 (w : Nat) (l : Nat) : List (Nat × Nat) := []
theorem F_191 {w : Nat} {l : Nat} {p3 : Int32} {p4 : Int32} {p5 : Int32} (hw : pK 10 w = true) (hl : pK 2 l = true) {M : pMem} {v : Int32} {N : pMem} (h : D_191 w l p3 p4 p5 M v N) : pFr (l_191 w l) M N :=
  (show pTf (l_191 w l) M (D_191 w l p3 p4 p5 M) from (tf_call pFr_refl (fun _ _ h => F_166s hw h) [] rfl fun _ M1 f1 => (tf_call f1 (fun _ _ h => F_157 hl (show pCa 135 14 = true by decide +kernel) h) [] rfl fun _ M2 f2 => (tf_ret f2)))) v N h
/-- TwoCamps$Slips.meanSeen(LTwoCamps$Wood;LTwoCamps$Law;IZ)I -/
def S_192_1 (w : Nat) (l : Nat) (p3 : Int32) (p4 : Int32) (P1 : Int32 → Int32 → Int32 → pMem → pT Int32) (P3 : Int32 → Int32 → Int32 → Int32 → pMem → pT Int32) (x5 : Int32) (x6 : Int32) (x7 : Int32) (M : pMem) : pT Int32 := tIf ((kI 24) ≤ x7) (tRet (f_38 x5 x6) M) (P3 x5 x6 x7 (kI 0) M)
def S_192_3 (w : Nat) (l : Nat) (p3 : Int32) (p4 : Int32) (P1 : Int32 → Int32 → Int32 → pMem → pT Int32) (P3 : Int32 → Int32 → Int32 → Int32 → pMem → pT Int32) (x5 : Int32) (x6 : Int32) (x7 : Int32) (x8 : Int32) (M : pMem) : pT Int32 := tIf ((f_37 (M w 2) x7) = 0) (P1 x5 x6 (x7 + kI 1) M) (tIf ((kI 24) ≤ x8) (P1 x5 x6 (x7 + kI 1) M) (tIf (x8 = x7) (P3 x5 x6 x7 (x8 + kI 1) M) (tIf ((f_37 (M w 2) x8) = 0) (P3 x5 x6 x7 (x8 + kI 1) M) (tIf (¬ (f_225 w x7 M) = (f_225 w x8 M)) (tIf (¬ (kI 0) = p4) (P3 x5 x6 x7 (x8 + kI 1) M) (tCall (D_191 w l x7 x8 p3 M) fun v1 M1 => P3 (x5 + v1) (x6 + kI 1) x7 (x8 + kI 1) M1)) (tIf (¬ (kI 1) = p4) (P3 x5 x6 x7 (x8 + kI 1) M) (tCall (D_191 w l x7 x8 p3 M) fun v1 M1 => P3 (x5 + v1) (x6 + kI 1) x7 (x8 + kI 1) M1))))))
def C_192 (w : Nat) (l : Nat) (p3 : Int32) (p4 : Int32) (P1 : Int32 → Int32 → Int32 → pMem → pT Int32) (P3 : Int32 → Int32 → Int32 → Int32 → pMem → pT Int32) : Prop := (∀ (x5 : Int32) (x6 : Int32) (x7 : Int32) M v N, S_192_1 w l p3 p4 P1 P3 x5 x6 x7 M v N → P1 x5 x6 x7 M v N) ∧ (∀ (x5 : Int32) (x6 : Int32) (x7 : Int32) (x8 : Int32) M v N, S_192_3 w l p3 p4 P1 P3 x5 x6 x7 x8 M v N → P3 x5 x6 x7 x8 M v N)
def L_192_1 (w : Nat) (l : Nat) (p3 : Int32) (p4 : Int32) (x5 : Int32) (x6 : Int32) (x7 : Int32) (M : pMem) : pT Int32 := fun v N => ∀ P : (Int32 → Int32 → Int32 → pMem → pT Int32) × (Int32 → Int32 → Int32 → Int32 → pMem → pT Int32), C_192 w l p3 p4 P.1 P.2 → P.1 x5 x6 x7 M v N
def L_192_3 (w : Nat) (l : Nat) (p3 : Int32) (p4 : Int32) (x5 : Int32) (x6 : Int32) (x7 : Int32) (x8 : Int32) (M : pMem) : pT Int32 := fun v N => ∀ P : (Int32 → Int32 → Int32 → pMem → pT Int32) × (Int32 → Int32 → Int32 → Int32 → pMem → pT Int32), C_192 w l p3 p4 P.1 P.2 → P.2 x5 x6 x7 x8 M v N
def D_192 (w : Nat) (l : Nat) (p3 : Int32) (p4 : Int32) (M : pMem) : pT Int32 := L_192_1 w l p3 p4 (kI 0) (kI 0) (kI 0) M
theorem K_192 {X : aX} {F d : Nat} {K : Nat → aK} (hS : pS K) {w : Nat} {l : Nat} {p3 : Int32} {p4 : Int32} (hw : pK 10 w = true) (hl : pK 2 l = true) {out : Option Value × aH} (P1 : Int32 → Int32 → Int32 → pMem → pT Int32) (P3 : Int32 → Int32 → Int32 → Int32 → pMem → pT Int32) (hC : C_192 w l p3 p4 P1 P3) : ∀ f, (∀ (x5 : Int32) (x6 : Int32) (x7 : Int32) (u8 : Value) M, pm X F d 192 f 1 [.iload 7, .bipush 24, .if_icmp .ge 14] [.ref 133, .ref w, .ref l, .int p3, .int p4, .int x5, .int x6, .int x7, u8] [] (pH K M) out → pG eI K out (P1 x5 x6 x7 M)) ∧ (∀ (x5 : Int32) (x6 : Int32) (x7 : Int32) (x8 : Int32) M, pm X F d 192 f 3 [.aload 1, .getfield 32010008, .iload 7, .invokestatic 995037, .ifCond .eq 13] [.ref 133, .ref w, .ref l, .int p3, .int p4, .int x5, .int x6, .int x7, .int x8] [] (pH K M) out → pG eI K out (P3 x5 x6 x7 x8 M)) := by
  intro f
  induction f using Nat.strongRecOn with
  | _ f ih =>
    refine ⟨?_, ?_⟩
    · intro x5 x6 x7 u8 M H
      refine pG_mono (fun v N h => hC.1 x5 x6 x7 M v N h) ?_
      unfold S_192_1
      replace H := pRun (ls' := [.ref 133, .ref w, .ref l, .int p3, .int p4, .int x5, .int x6, .int x7, u8]) (st' := [.int (kI 24), .int x7]) 2 rfl H
      rcases pIfc (n1 := 14) rfl (mcb_192 rfl) (mcb_192 rfl) H with ⟨g1, g0, _, H⟩ | ⟨g1, g0, _, H⟩
      · refine pG_pos (c := (kI 24) ≤ x7) g1 ?_
        replace H := pRun (ls' := [.ref 133, .ref w, .ref l, .int p3, .int p4, .int x5, .int x6, .int x7, u8]) (st' := [.int x6, .int x5]) 2 rfl H
        obtain ⟨rv, h1, hc, H⟩ := pCalT 38 2 (as := [.int x5, .int x6]) (rest := []) rfl (by decide) (by decide +kernel) rfl rfl H
        replace H := pUseF (f_38_ok hS hc) H
        exact pG_ret (pRetI H)
      · refine pG_neg (c := (kI 24) ≤ x7) g1 ?_
        replace H := pRun (ls' := [.ref 133, .ref w, .ref l, .int p3, .int p4, .int x5, .int x6, .int x7, .int (kI 0)]) (st' := []) 2 rfl H
        obtain ⟨g0, _, H⟩ := pFall (mcb_192 rfl) H
        exact (ih _ (by omega)).2 _ _ _ _  _ H
    · intro x5 x6 x7 x8 M H
      refine pG_mono (fun v N h => hC.2 x5 x6 x7 x8 M v N h) ?_
      unfold S_192_3
      replace H := pRun (ls' := [.ref 133, .ref w, .ref l, .int p3, .int p4, .int x5, .int x6, .int x7, .int x8]) (st' := [.ref w]) 1 rfl H
      replace H := pGetN (v := M w 2) rfl (by decide) H
      replace H := pRun (ls' := [.ref 133, .ref w, .ref l, .int p3, .int p4, .int x5, .int x6, .int x7, .int x8]) (st' := [.int x7, .int (M w 2)]) 1 rfl H
      obtain ⟨rv, h1, hc, H⟩ := pCalT 37 2 (as := [.int (M w 2), .int x7]) (rest := []) rfl (by decide) (by decide +kernel) rfl rfl H
      replace H := pUseF (f_37_ok hS hc) H
      rcases pIf0 (n1 := 13) rfl (mcb_192 rfl) (mcb_192 rfl) H with ⟨g1, g0, _, H⟩ | ⟨g1, g0, _, H⟩
      · refine pG_pos (c := (f_37 (M w 2) x7) = 0) g1 ?_
        replace H := pRun (ls' := [.ref 133, .ref w, .ref l, .int p3, .int p4, .int x5, .int x6, .int (x7 + kI 1), .int x8]) (st' := []) 1 rfl H
        obtain ⟨g0, _, H⟩ := pGo (n1 := 1) rfl (mcb_192 rfl) H
        exact (ih _ (by omega)).1 _ _ _ _  _ H
      · refine pG_neg (c := (f_37 (M w 2) x7) = 0) g1 ?_
        replace H := pRun (ls' := [.ref 133, .ref w, .ref l, .int p3, .int p4, .int x5, .int x6, .int x7, .int x8]) (st' := [.int (kI 24), .int x8]) 2 rfl H
        rcases pIfc (n1 := 13) rfl (mcb_192 rfl) (mcb_192 rfl) H with ⟨g2, g0, _, H⟩ | ⟨g2, g0, _, H⟩
        · refine pG_pos (c := (kI 24) ≤ x8) g2 ?_
          replace H := pRun (ls' := [.ref 133, .ref w, .ref l, .int p3, .int p4, .int x5, .int x6, .int (x7 + kI 1), .int x8]) (st' := []) 1 rfl H
          obtain ⟨g0, _, H⟩ := pGo (n1 := 1) rfl (mcb_192 rfl) H
          exact (ih _ (by omega)).1 _ _ _ _  _ H
        · refine pG_neg (c := (kI 24) ≤ x8) g2 ?_
          replace H := pRun (ls' := [.ref 133, .ref w, .ref l, .int p3, .int p4, .int x5, .int x6, .int x7, .int x8]) (st' := [.int x7, .int x8]) 2 rfl H
          rcases pIfc (n1 := 12) rfl (mcb_192 rfl) (mcb_192 rfl) H with ⟨g3, g0, _, H⟩ | ⟨g3, g0, _, H⟩
          · refine pG_pos (c := x8 = x7) g3 ?_
            replace H := pRun (ls' := [.ref 133, .ref w, .ref l, .int p3, .int p4, .int x5, .int x6, .int x7, .int (x8 + kI 1)]) (st' := []) 1 rfl H
            obtain ⟨g0, _, H⟩ := pGo (n1 := 3) rfl (mcb_192 rfl) H
            exact (ih _ (by omega)).2 _ _ _ _  _ H
          · refine pG_neg (c := x8 = x7) g3 ?_
            replace H := pRun (ls' := [.ref 133, .ref w, .ref l, .int p3, .int p4, .int x5, .int x6, .int x7, .int x8]) (st' := [.ref w]) 1 rfl H
            replace H := pGetN (v := M w 2) rfl (by decide) H
            replace H := pRun (ls' := [.ref 133, .ref w, .ref l, .int p3, .int p4, .int x5, .int x6, .int x7, .int x8]) (st' := [.int x8, .int (M w 2)]) 1 rfl H
            obtain ⟨rv, h1, hc, H⟩ := pCalT 37 2 (as := [.int (M w 2), .int x8]) (rest := []) rfl (by decide) (by decide +kernel) rfl rfl H
            replace H := pUseF (f_37_ok hS hc) H
            rcases pIf0 (n1 := 12) rfl (mcb_192 rfl) (mcb_192 rfl) H with ⟨g4, g0, _, H⟩ | ⟨g4, g0, _, H⟩
            · refine pG_pos (c := (f_37 (M w 2) x8) = 0) g4 ?_
              replace H := pRun (ls' := [.ref 133, .ref w, .ref l, .int p3, .int p4, .int x5, .int x6, .int x7, .int (x8 + kI 1)]) (st' := []) 1 rfl H
              obtain ⟨g0, _, H⟩ := pGo (n1 := 3) rfl (mcb_192 rfl) H
              exact (ih _ (by omega)).2 _ _ _ _  _ H
            · refine pG_neg (c := (f_37 (M w 2) x8) = 0) g4 ?_
              replace H := pRun (ls' := [.ref 133, .ref w, .ref l, .int p3, .int p4, .int x5, .int x6, .int x7, .int x8]) (st' := [.int x7, .ref w]) 2 rfl H
              obtain ⟨rv, h1, hc, H⟩ := pCalV 225 1 w (as := [.int x7]) (rest := []) rfl (by decide) (by decide +kernel) rfl rfl H
              replace H := pUseF (f_225_ok hS hw hc) H
              replace H := pRun (ls' := [.ref 133, .ref w, .ref l, .int p3, .int p4, .int x5, .int x6, .int x7, .int x8]) (st' := [.int x8, .ref w, .int (f_225 w x7 M)]) 2 rfl H
              obtain ⟨rv, h1, hc, H⟩ := pCalV 225 1 w (as := [.int x8]) (rest := [.int (f_225 w x7 M)]) rfl (by decide) (by decide +kernel) rfl rfl H
              replace H := pUseF (f_225_ok hS hw hc) H
              rcases pIfc (n1 := 9) rfl (mcb_192 rfl) (mcb_192 rfl) H with ⟨g5, g0, _, H⟩ | ⟨g5, g0, _, H⟩
              · refine pG_pos (c := ¬ (f_225 w x7 M) = (f_225 w x8 M)) g5 ?_
                replace H := pRun (ls' := [.ref 133, .ref w, .ref l, .int p3, .int p4, .int x5, .int x6, .int x7, .int x8]) (st' := [.int (kI 0)]) 1 rfl H
                obtain ⟨g0, _, H⟩ := pFall (mcb_192 rfl) H
                replace H := pRun (ls' := [.ref 133, .ref w, .ref l, .int p3, .int p4, .int x5, .int x6, .int x7, .int x8]) (st' := [.int p4, .int (kI 0)]) 1 rfl H
                rcases pIfc (n1 := 12) rfl (mcb_192 rfl) (mcb_192 rfl) H with ⟨g6, g0, _, H⟩ | ⟨g6, g0, _, H⟩
                · refine pG_pos (c := ¬ (kI 0) = p4) g6 ?_
                  replace H := pRun (ls' := [.ref 133, .ref w, .ref l, .int p3, .int p4, .int x5, .int x6, .int x7, .int (x8 + kI 1)]) (st' := []) 1 rfl H
                  obtain ⟨g0, _, H⟩ := pGo (n1 := 3) rfl (mcb_192 rfl) H
                  exact (ih _ (by omega)).2 _ _ _ _  _ H
                · refine pG_neg (c := ¬ (kI 0) = p4) g6 ?_
                  replace H := pRun (ls' := [.ref 133, .ref w, .ref l, .int p3, .int p4, .int x5, .int x6, .int x7, .int x8]) (st' := [.int p3, .int x8, .int x7, .ref l, .ref w, .ref 133, .int x5]) 7 rfl H
                  obtain ⟨rv, h1, hc, H⟩ := pCalV 191 5 133 (as := [.ref w, .ref l, .int x7, .int x8, .int p3]) (rest := [.int x5]) rfl (by decide) (by decide +kernel) rfl rfl H
                  obtain ⟨v1, M1, hD, H⟩ := pUseI (D_191_ok hS hw hl hc) H
                  refine pG_call (x := v1) (M1 := M1) hD ?_
                  replace H := pRun (ls' := [.ref 133, .ref w, .ref l, .int p3, .int p4, .int (x5 + v1), .int (x6 + kI 1), .int x7, .int x8]) (st' := []) 3 rfl H
                  obtain ⟨g0, _, H⟩ := pFall (mcb_192 rfl) H
                  replace H := pRun (ls' := [.ref 133, .ref w, .ref l, .int p3, .int p4, .int (x5 + v1), .int (x6 + kI 1), .int x7, .int (x8 + kI 1)]) (st' := []) 1 rfl H
                  obtain ⟨g0, _, H⟩ := pGo (n1 := 3) rfl (mcb_192 rfl) H
                  exact (ih _ (by omega)).2 _ _ _ _  _ H
              · refine pG_neg (c := ¬ (f_225 w x7 M) = (f_225 w x8 M)) g5 ?_
                replace H := pRun (ls' := [.ref 133, .ref w, .ref l, .int p3, .int p4, .int x5, .int x6, .int x7, .int x8]) (st' := [.int (kI 1)]) 1 rfl H
                obtain ⟨g0, _, H⟩ := pGo (n1 := 10) rfl (mcb_192 rfl) H
                replace H := pRun (ls' := [.ref 133, .ref w, .ref l, .int p3, .int p4, .int x5, .int x6, .int x7, .int x8]) (st' := [.int p4, .int (kI 1)]) 1 rfl H
                rcases pIfc (n1 := 12) rfl (mcb_192 rfl) (mcb_192 rfl) H with ⟨g6, g0, _, H⟩ | ⟨g6, g0, _, H⟩
                · refine pG_pos (c := ¬ (kI 1) = p4) g6 ?_
                  replace H := pRun (ls' := [.ref 133, .ref w, .ref l, .int p3, .int p4, .int x5, .int x6, .int x7, .int (x8 + kI 1)]) (st' := []) 1 rfl H
                  obtain ⟨g0, _, H⟩ := pGo (n1 := 3) rfl (mcb_192 rfl) H
                  exact (ih _ (by omega)).2 _ _ _ _  _ H
                · refine pG_neg (c := ¬ (kI 1) = p4) g6 ?_
                  replace H := pRun (ls' := [.ref 133, .ref w, .ref l, .int p3, .int p4, .int x5, .int x6, .int x7, .int x8]) (st' := [.int p3, .int x8, .int x7, .ref l, .ref w, .ref 133, .int x5]) 7 rfl H
                  obtain ⟨rv, h1, hc, H⟩ := pCalV 191 5 133 (as := [.ref w, .ref l, .int x7, .int x8, .int p3]) (rest := [.int x5]) rfl (by decide) (by decide +kernel) rfl rfl H
                  obtain ⟨v1, M1, hD, H⟩ := pUseI (D_191_ok hS hw hl hc) H
                  refine pG_call (x := v1) (M1 := M1) hD ?_
                  replace H := pRun (ls' := [.ref 133, .ref w, .ref l, .int p3, .int p4, .int (x5 + v1), .int (x6 + kI 1), .int x7, .int x8]) (st' := []) 3 rfl H
                  obtain ⟨g0, _, H⟩ := pFall (mcb_192 rfl) H
                  replace H := pRun (ls' := [.ref 133, .ref w, .ref l, .int p3, .int p4, .int (x5 + v1), .int (x6 + kI 1), .int x7, .int (x8 + kI 1)]) (st' := []) 1 rfl H
                  obtain ⟨g0, _, H⟩ := pGo (n1 := 3) rfl (mcb_192 rfl) H
                  exact (ih _ (by omega)).2 _ _ _ _  _ H
theorem L_192_1_ok {X : aX} {F d : Nat} {K : Nat → aK} (hS : pS K) {w : Nat} {l : Nat} {p3 : Int32} {p4 : Int32} (hw : pK 10 w = true) (hl : pK 2 l = true) {out : Option Value × aH} {f : Nat} {x5 : Int32} {x6 : Int32} {x7 : Int32} {u8 : Value} {M : pMem} (H : pm X F d 192 f 1 [.iload 7, .bipush 24, .if_icmp .ge 14] [.ref 133, .ref w, .ref l, .int p3, .int p4, .int x5, .int x6, .int x7, u8] [] (pH K M) out) : pG eI K out (L_192_1 w l p3 p4 x5 x6 x7 M) := by
  refine pG_all (C := fun P : (Int32 → Int32 → Int32 → pMem → pT Int32) × (Int32 → Int32 → Int32 → Int32 → pMem → pT Int32) => C_192 w l p3 p4 P.1 P.2) (T := fun P => P.1 x5 x6 x7 M) eI_inj ((fun _ _ _ _ _ _ => True), (fun _ _ _ _ _ _ _ => True)) ?_ (fun P hP => (K_192 hS hw hl P.1 P.2 hP f).1 _ _ _ _ _ H)
  exact ⟨(fun _ _ _ _ _ _ _ => trivial), (fun _ _ _ _ _ _ _ _ => trivial)⟩
theorem L_192_3_ok {X : aX} {F d : Nat} {K : Nat → aK} (hS : pS K) {w : Nat} {l : Nat} {p3 : Int32} {p4 : Int32} (hw : pK 10 w = true) (hl : pK 2 l = true) {out : Option Value × aH} {f : Nat} {x5 : Int32} {x6 : Int32} {x7 : Int32} {x8 : Int32} {M : pMem} (H : pm X F d 192 f 3 [.aload 1, .getfield 32010008, .iload 7, .invokestatic 995037, .ifCond .eq 13] [.ref 133, .ref w, .ref l, .int p3, .int p4, .int x5, .int x6, .int x7, .int x8] [] (pH K M) out) : pG eI K out (L_192_3 w l p3 p4 x5 x6 x7 x8 M) := by
  refine pG_all (C := fun P : (Int32 → Int32 → Int32 → pMem → pT Int32) × (Int32 → Int32 → Int32 → Int32 → pMem → pT Int32) => C_192 w l p3 p4 P.1 P.2) (T := fun P => P.2 x5 x6 x7 x8 M) eI_inj ((fun _ _ _ _ _ _ => True), (fun _ _ _ _ _ _ _ => True)) ?_ (fun P hP => (K_192 hS hw hl P.1 P.2 hP f).2 _ _ _ _ _ H)
  exact ⟨(fun _ _ _ _ _ _ _ => trivial), (fun _ _ _ _ _ _ _ _ => trivial)⟩
theorem D_192_ok {X : aX} {F d : Nat} {K : Nat → aK} (hS : pS K) {w : Nat} {l : Nat} {p3 : Int32} {p4 : Int32} (hw : pK 10 w = true) (hl : pK 2 l = true) {M : pMem} {out : Option Value × aH} (H : aM X F d 192 [.ref 133, .ref w, .ref l, .int p3, .int p4] (pH K M) = some out) : pG eI K out (D_192 w l p3 p4 M) := by
  obtain ⟨d', g0, _, H⟩ := pEnt (n := 9) (ls := [.ref 133, .ref w, .ref l, .int p3, .int p4, aD, aD, aD, aD]) (mcb_192 rfl) (by decide +kernel) rfl H
  unfold D_192
  replace H := pRun (ls' := [.ref 133, .ref w, .ref l, .int p3, .int p4, .int (kI 0), .int (kI 0), .int (kI 0), aD]) (st' := []) 6 rfl H
  obtain ⟨g0, _, H⟩ := pFall (mcb_192 rfl) H
  exact L_192_1_ok hS hw hl  H
def l_192 (w : Nat) (l : Nat) : List (Nat × Nat) := []
theorem FC_192 {w : Nat} {l : Nat} {p3 : Int32} {p4 : Int32} (hw : pK 10 w = true) (hl : pK 2 l = true) : C_192 w l p3 p4 (fun _ _ _ M _ N => pFr (l_192 w l) M N) (fun _ _ _ _ M _ N => pFr (l_192 w l) M N) := ⟨fun x5 x6 x7 M => show pTf (l_192 w l) M (S_192_1 w l p3 p4 _ _ x5 x6 x7 M) from (tf_if (tf_ret pFr_refl) (tf_jump pFr_refl)), fun x5 x6 x7 x8 M => show pTf (l_192 w l) M (S_192_3 w l p3 p4 _ _ x5 x6 x7 x8 M) from (tf_if (tf_jump pFr_refl) (tf_if (tf_jump pFr_refl) (tf_if (tf_jump pFr_refl) (tf_if (tf_jump pFr_refl) (tf_if (tf_if (tf_jump pFr_refl) (tf_call pFr_refl (fun _ _ h => F_191 hw hl h) [] rfl fun _ M1 f1 => (tf_jump f1))) (tf_if (tf_jump pFr_refl) (tf_call pFr_refl (fun _ _ h => F_191 hw hl h) [] rfl fun _ M1 f1 => (tf_jump f1))))))))⟩
theorem F_192 {w : Nat} {l : Nat} {p3 : Int32} {p4 : Int32} (hw : pK 10 w = true) (hl : pK 2 l = true) {M : pMem} {v : Int32} {N : pMem} (h : D_192 w l p3 p4 M v N) : pFr (l_192 w l) M N :=
  (show pTf (l_192 w l) M (D_192 w l p3 p4 M) from (tf_jumpL (fun _ _ _ M _ N => pFr (l_192 w l) M N, fun _ _ _ _ M _ N => pFr (l_192 w l) M N) (FC_192 hw hl) rfl pFr_refl)) v N h
/-- TwoCamps$Tape.signAt(I)I -/
def f_198 (p1 : Int32) (M : pMem) : Int32 := if p1 < 0 then (kI (-1)) else if (M 1 0) ≤ p1 then (kI (-1)) else if (kI 500) ≤ p1 then (kI (-1)) else (M 2 (ix p1))
theorem f_198_ok {X : aX} {F d : Nat} {K : Nat → aK} (hS : pS K) {p1 : Int32} {M : pMem} {out : Option Value × aH} (H : aM X F d 198 [.ref 1, .int p1] (pH K M) = some out) : out = (some <| Value.int (f_198 p1 M), pH K M) := by
  obtain ⟨d', g0, _, H⟩ := pEnt (n := 2) (ls := [.ref 1, .int p1]) (mcb_198 rfl) (by decide +kernel) rfl H
  unfold f_198
  replace H := pRun (ls' := [.ref 1, .int p1]) (st' := [.int p1]) 1 rfl H
  rcases pIf0 (n1 := 4) rfl (mcb_198 rfl) (mcb_198 rfl) H with ⟨g1, g0, _, H⟩ | ⟨g1, g0, _, H⟩
  · rw [if_pos (show p1 < 0 from g1)]
    replace H := pRun (ls' := [.ref 1, .int p1]) (st' := [.int (kI (-1))]) 1 rfl H
    obtain ⟨g0, _, H⟩ := pFall (mcb_198 rfl) H
    exact pRetI H
  · rw [if_neg (show ¬ (p1 < 0) from g1)]
    replace H := pRun (ls' := [.ref 1, .int p1]) (st' := [.ref 1, .int p1]) 2 rfl H
    replace H := pGetN (v := M 1 0) rfl (by decide) H
    rcases pIfc (n1 := 4) rfl (mcb_198 rfl) (mcb_198 rfl) H with ⟨g2, g0, _, H⟩ | ⟨g2, g0, _, H⟩
    · rw [if_pos (show (M 1 0) ≤ p1 from g2)]
      replace H := pRun (ls' := [.ref 1, .int p1]) (st' := [.int (kI (-1))]) 1 rfl H
      obtain ⟨g0, _, H⟩ := pFall (mcb_198 rfl) H
      exact pRetI H
    · rw [if_neg (show ¬ ((M 1 0) ≤ p1) from g2)]
      replace H := pRun (ls' := [.ref 1, .int p1]) (st' := [.int (kI 500), .int p1]) 2 rfl H
      rcases pIfc (n1 := 4) rfl (mcb_198 rfl) (mcb_198 rfl) H with ⟨g3, g0, _, H⟩ | ⟨g3, g0, _, H⟩
      · rw [if_pos (show (kI 500) ≤ p1 from g3)]
        replace H := pRun (ls' := [.ref 1, .int p1]) (st' := [.int (kI (-1))]) 1 rfl H
        obtain ⟨g0, _, H⟩ := pFall (mcb_198 rfl) H
        exact pRetI H
      · rw [if_neg (show ¬ ((kI 500) ≤ p1) from g3)]
        replace H := pRun (ls' := [.ref 1, .int p1]) (st' := [.ref 1]) 1 rfl H
        replace H := pGetR (r := 2) (pRf hS (by decide +kernel)) rfl H
        replace H := pRun (ls' := [.ref 1, .int p1]) (st' := [.int p1, .ref 2]) 1 rfl H
        obtain ⟨g4, H⟩ := pIld (n := 500) (pLt (show pCa 2 500 = true by decide +kernel)) (pLn hS (show pCa 2 500 = true by decide +kernel)) H
        obtain ⟨g0, _, H⟩ := pGo (n1 := 5) rfl (mcb_198 rfl) H
        exact pRetI H
/-- TwoCamps$Tape.isLetter(I)Z -/
def f_202 (p0 : Int32) : Int32 := if p0 < (kI 97) then if p0 < (kI 65) then (kI 0) else if (kI 90) < p0 then (kI 0) else (kI 1) else if p0 ≤ (kI 122) then (kI 1) else if p0 < (kI 65) then (kI 0) else if (kI 90) < p0 then (kI 0) else (kI 1)
theorem f_202_ok {X : aX} {F d : Nat} {K : Nat → aK} (hS : pS K) {p0 : Int32} {M : pMem} {out : Option Value × aH} (H : aM X F d 202 [.int p0] (pH K M) = some out) : out = (some <| Value.int (f_202 p0), pH K M) := by
  obtain ⟨d', g0, _, H⟩ := pEnt (n := 1) (ls := [.int p0]) (mcb_202 rfl) (by decide +kernel) rfl H
  unfold f_202
  replace H := pRun (ls' := [.int p0]) (st' := [.int (kI 97), .int p0]) 2 rfl H
  rcases pIfc (n1 := 2) rfl (mcb_202 rfl) (mcb_202 rfl) H with ⟨g1, g0, _, H⟩ | ⟨g1, g0, _, H⟩
  · rw [if_pos (show p0 < (kI 97) from g1)]
    replace H := pRun (ls' := [.int p0]) (st' := [.int (kI 65), .int p0]) 2 rfl H
    rcases pIfc (n1 := 5) rfl (mcb_202 rfl) (mcb_202 rfl) H with ⟨g2, g0, _, H⟩ | ⟨g2, g0, _, H⟩
    · rw [if_pos (show p0 < (kI 65) from g2)]
      replace H := pRun (ls' := [.int p0]) (st' := [.int (kI 0)]) 1 rfl H
      obtain ⟨g0, _, H⟩ := pFall (mcb_202 rfl) H
      exact pRetI H
    · rw [if_neg (show ¬ (p0 < (kI 65)) from g2)]
      replace H := pRun (ls' := [.int p0]) (st' := [.int (kI 90), .int p0]) 2 rfl H
      rcases pIfc (n1 := 5) rfl (mcb_202 rfl) (mcb_202 rfl) H with ⟨g3, g0, _, H⟩ | ⟨g3, g0, _, H⟩
      · rw [if_pos (show (kI 90) < p0 from g3)]
        replace H := pRun (ls' := [.int p0]) (st' := [.int (kI 0)]) 1 rfl H
        obtain ⟨g0, _, H⟩ := pFall (mcb_202 rfl) H
        exact pRetI H
      · rw [if_neg (show ¬ ((kI 90) < p0) from g3)]
        replace H := pRun (ls' := [.int p0]) (st' := [.int (kI 1)]) 1 rfl H
        obtain ⟨g0, _, H⟩ := pGo (n1 := 6) rfl (mcb_202 rfl) H
        exact pRetI H
  · rw [if_neg (show ¬ (p0 < (kI 97)) from g1)]
    replace H := pRun (ls' := [.int p0]) (st' := [.int (kI 122), .int p0]) 2 rfl H
    rcases pIfc (n1 := 4) rfl (mcb_202 rfl) (mcb_202 rfl) H with ⟨g2, g0, _, H⟩ | ⟨g2, g0, _, H⟩
    · rw [if_pos (show p0 ≤ (kI 122) from g2)]
      replace H := pRun (ls' := [.int p0]) (st' := [.int (kI 1)]) 1 rfl H
      obtain ⟨g0, _, H⟩ := pGo (n1 := 6) rfl (mcb_202 rfl) H
      exact pRetI H
    · rw [if_neg (show ¬ (p0 ≤ (kI 122)) from g2)]
      replace H := pRun (ls' := [.int p0]) (st' := [.int (kI 65), .int p0]) 2 rfl H
      rcases pIfc (n1 := 5) rfl (mcb_202 rfl) (mcb_202 rfl) H with ⟨g3, g0, _, H⟩ | ⟨g3, g0, _, H⟩
      · rw [if_pos (show p0 < (kI 65) from g3)]
        replace H := pRun (ls' := [.int p0]) (st' := [.int (kI 0)]) 1 rfl H
        obtain ⟨g0, _, H⟩ := pFall (mcb_202 rfl) H
        exact pRetI H
      · rw [if_neg (show ¬ (p0 < (kI 65)) from g3)]
        replace H := pRun (ls' := [.int p0]) (st' := [.int (kI 90), .int p0]) 2 rfl H
        rcases pIfc (n1 := 5) rfl (mcb_202 rfl) (mcb_202 rfl) H with ⟨g4, g0, _, H⟩ | ⟨g4, g0, _, H⟩
        · rw [if_pos (show (kI 90) < p0 from g4)]
          replace H := pRun (ls' := [.int p0]) (st' := [.int (kI 0)]) 1 rfl H
          obtain ⟨g0, _, H⟩ := pFall (mcb_202 rfl) H
          exact pRetI H
        · rw [if_neg (show ¬ ((kI 90) < p0) from g4)]
          replace H := pRun (ls' := [.int p0]) (st' := [.int (kI 1)]) 1 rfl H
          obtain ⟨g0, _, H⟩ := pGo (n1 := 6) rfl (mcb_202 rfl) H
          exact pRetI H
/-- TwoCamps$Tape.isDigit(I)Z -/
def f_203 (p0 : Int32) : Int32 := if p0 < (kI 48) then (kI 0) else if (kI 57) < p0 then (kI 0) else (kI 1)
theorem f_203_ok {X : aX} {F d : Nat} {K : Nat → aK} (hS : pS K) {p0 : Int32} {M : pMem} {out : Option Value × aH} (H : aM X F d 203 [.int p0] (pH K M) = some out) : out = (some <| Value.int (f_203 p0), pH K M) := by
  obtain ⟨d', g0, _, H⟩ := pEnt (n := 1) (ls := [.int p0]) (mcb_203 rfl) (by decide +kernel) rfl H
  unfold f_203
  replace H := pRun (ls' := [.int p0]) (st' := [.int (kI 48), .int p0]) 2 rfl H
  rcases pIfc (n1 := 3) rfl (mcb_203 rfl) (mcb_203 rfl) H with ⟨g1, g0, _, H⟩ | ⟨g1, g0, _, H⟩
  · rw [if_pos (show p0 < (kI 48) from g1)]
    replace H := pRun (ls' := [.int p0]) (st' := [.int (kI 0)]) 1 rfl H
    obtain ⟨g0, _, H⟩ := pFall (mcb_203 rfl) H
    exact pRetI H
  · rw [if_neg (show ¬ (p0 < (kI 48)) from g1)]
    replace H := pRun (ls' := [.int p0]) (st' := [.int (kI 57), .int p0]) 2 rfl H
    rcases pIfc (n1 := 3) rfl (mcb_203 rfl) (mcb_203 rfl) H with ⟨g2, g0, _, H⟩ | ⟨g2, g0, _, H⟩
    · rw [if_pos (show (kI 57) < p0 from g2)]
      replace H := pRun (ls' := [.int p0]) (st' := [.int (kI 0)]) 1 rfl H
      obtain ⟨g0, _, H⟩ := pFall (mcb_203 rfl) H
      exact pRetI H
    · rw [if_neg (show ¬ ((kI 57) < p0) from g2)]
      replace H := pRun (ls' := [.int p0]) (st' := [.int (kI 1)]) 1 rfl H
      obtain ⟨g0, _, H⟩ := pGo (n1 := 4) rfl (mcb_203 rfl) H
      exact pRetI H
