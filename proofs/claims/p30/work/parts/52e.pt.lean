/-! what runs come to, method by method: printed by wip/pm/pm.py -/
def S_177_e (E177 : Int32 → pMem → pT Int32) (P177_1 : Int32 → Int32 → Int32 → Int32 → pMem → pT Int32) (E178 : Int32 → pMem → pT Int32) (P178_1 : Int32 → Int32 → pMem → pT Int32) (P178_11 : Int32 → Int32 → Int32 → pMem → pT Int32) (p1 : Int32) (M : pMem) : pT Int32 := P177_1 p1 (kI 0) (kI 102) (kI 0) M
def S_177_1 (E177 : Int32 → pMem → pT Int32) (P177_1 : Int32 → Int32 → Int32 → Int32 → pMem → pT Int32) (E178 : Int32 → pMem → pT Int32) (P178_1 : Int32 → Int32 → pMem → pT Int32) (P178_11 : Int32 → Int32 → Int32 → pMem → pT Int32) (p1 : Int32) (x2 : Int32) (x3 : Int32) (x4 : Int32) (M : pMem) : pT Int32 := tIf ((kI 500) ≤ x4) (tRet (kI 0) M) (tCall (E178 p1 M) fun v1 M1 => tIf (¬ v1 = 0) (tIf (¬ x3 = (kI 22)) (tIf ((f_171 M1) = (kI 22)) (tPut (aPut M1 6 3 ((M1 6 3) + (kI 1))) fun M2 => P177_1 p1 x2 (f_171 M1) (x4 + kI 1) M2) (tIf (x2 = 0) (tIf ((f_171 M1) = (kI 21)) (tPut (aPut M1 6 3 ((M1 6 3) + (kI 1))) fun M2 => P177_1 p1 (kI 1) (f_171 M1) (x4 + kI 1) M2) (tRet (kI 1) M1)) (tCall (D_155 7 (kI (-21)) M1) fun _ M2 => tIf ((f_171 M1) = (kI 21)) (tPut (aPut M2 6 3 ((M2 6 3) + (kI 1))) fun M3 => P177_1 p1 (kI 1) (f_171 M1) (x4 + kI 1) M3) (tRet (kI 1) M2)))) (tCall (D_155 7 (kI (-22)) M1) fun _ M2 => tIf ((f_171 M2) = (kI 22)) (tPut (aPut M2 6 3 ((M2 6 3) + (kI 1))) fun M3 => P177_1 p1 x2 (f_171 M2) (x4 + kI 1) M3) (tIf (x2 = 0) (tIf ((f_171 M2) = (kI 21)) (tPut (aPut M2 6 3 ((M2 6 3) + (kI 1))) fun M3 => P177_1 p1 (kI 1) (f_171 M2) (x4 + kI 1) M3) (tRet (kI 1) M2)) (tCall (D_155 7 (kI (-21)) M2) fun _ M3 => tIf ((f_171 M2) = (kI 21)) (tPut (aPut M3 6 3 ((M3 6 3) + (kI 1))) fun M4 => P177_1 p1 (kI 1) (f_171 M2) (x4 + kI 1) M4) (tRet (kI 1) M3))))) (tRet (kI 0) M1))
def S_178_e (E177 : Int32 → pMem → pT Int32) (P177_1 : Int32 → Int32 → Int32 → Int32 → pMem → pT Int32) (E178 : Int32 → pMem → pT Int32) (P178_1 : Int32 → Int32 → pMem → pT Int32) (P178_11 : Int32 → Int32 → Int32 → pMem → pT Int32) (p1 : Int32) (M : pMem) : pT Int32 := P178_1 p1 p1 M
def S_178_1 (E177 : Int32 → pMem → pT Int32) (P177_1 : Int32 → Int32 → Int32 → Int32 → pMem → pT Int32) (E178 : Int32 → pMem → pT Int32) (P178_1 : Int32 → Int32 → pMem → pT Int32) (P178_11 : Int32 → Int32 → Int32 → pMem → pT Int32) (p1 : Int32) (x2 : Int32) (M : pMem) : pT Int32 := tIf (¬ (f_171 M) = (kI 23)) (tIf (¬ (f_171 M) = (kI 40)) (tIf (x2 < (kI 8)) (P178_11 p1 x2 (kI 0) M) (tIf (¬ (f_171 M) = (kI 23)) (P178_11 p1 x2 (kI 0) M) (tCall (D_173 (kI 3) M) fun v1 M1 => tRet v1 M1))) (tIf (x2 < (kI 8)) (P178_11 p1 x2 (kI 1) M) (tCall (D_173 (kI 3) M) fun v1 M1 => tRet v1 M1))) (tIf ((kI 8) ≤ x2) (tIf (¬ (f_171 M) = (kI 40)) (tIf (x2 < (kI 8)) (P178_11 p1 x2 (kI 0) M) (tIf (¬ (f_171 M) = (kI 23)) (P178_11 p1 x2 (kI 0) M) (tCall (D_173 (kI 3) M) fun v1 M1 => tRet v1 M1))) (tIf (x2 < (kI 8)) (P178_11 p1 x2 (kI 1) M) (tCall (D_173 (kI 3) M) fun v1 M1 => tRet v1 M1))) (tPut (aPut M 6 3 ((M 6 3) + (kI 1))) fun M1 => P178_1 p1 (x2 + kI 1) M1))
def S_178_11 (E177 : Int32 → pMem → pT Int32) (P177_1 : Int32 → Int32 → Int32 → Int32 → pMem → pT Int32) (E178 : Int32 → pMem → pT Int32) (P178_1 : Int32 → Int32 → pMem → pT Int32) (P178_11 : Int32 → Int32 → Int32 → pMem → pT Int32) (p1 : Int32) (x2 : Int32) (x3 : Int32) (M : pMem) : pT Int32 := tIf (x3 = 0) (tCall (D_179 M) fun v1 M1 => tIf (v1 = 0) (tCall (D_155 7 (-(f_171 M1)) M1) fun _ M2 => tGd (¬ (kI 2) = 0) <| tIf (¬ (pRem (x2 - p1) (kI 2)) = (kI 1)) (tRet (kI 0) M2) (tCall (D_155 7 (kI (-23)) M2) fun _ M3 => tRet (kI 0) M3)) (tCall (D_176 (kI 60) (kI 62) M1) fun v2 M2 => tIf (v2 = 0) (tCall (D_155 7 (-(f_171 M1)) M2) fun _ M3 => tGd (¬ (kI 2) = 0) <| tIf (¬ (pRem (x2 - p1) (kI 2)) = (kI 1)) (tRet (kI 0) M3) (tCall (D_155 7 (kI (-23)) M3) fun _ M4 => tRet (kI 0) M4)) (tCall (D_179 M2) fun v3 M3 => tIf (v3 = 0) (tCall (D_155 7 (-(f_171 M1)) M3) fun _ M4 => tGd (¬ (kI 2) = 0) <| tIf (¬ (pRem (x2 - p1) (kI 2)) = (kI 1)) (tRet (kI 0) M4) (tCall (D_155 7 (kI (-23)) M4) fun _ M5 => tRet (kI 0) M5)) (tCall (D_155 7 (-(f_171 M1)) M3) fun _ M4 => tGd (¬ (kI 2) = 0) <| tIf (¬ (pRem (x2 - p1) (kI 2)) = (kI 1)) (tRet (kI 1) M4) (tCall (D_155 7 (kI (-23)) M4) fun _ M5 => tRet (kI 1) M5))))) (tPut (aPut M 6 3 ((M 6 3) + (kI 1))) fun M1 => tCall (E177 (x2 + (kI 1)) M1) fun v1 M2 => tIf (v1 = 0) (tGd (¬ (kI 2) = 0) <| tIf (¬ (pRem (x2 - p1) (kI 2)) = (kI 1)) (tRet (kI 0) M2) (tCall (D_155 7 (kI (-23)) M2) fun _ M3 => tRet (kI 0) M3)) (tCall (D_176 (kI 41) (kI 41) M2) fun v2 M3 => tIf (v2 = 0) (tGd (¬ (kI 2) = 0) <| tIf (¬ (pRem (x2 - p1) (kI 2)) = (kI 1)) (tRet (kI 0) M3) (tCall (D_155 7 (kI (-23)) M3) fun _ M4 => tRet (kI 0) M4)) (tGd (¬ (kI 2) = 0) <| tIf (¬ (pRem (x2 - p1) (kI 2)) = (kI 1)) (tRet (kI 1) M3) (tCall (D_155 7 (kI (-23)) M3) fun _ M4 => tRet (kI 1) M4))))
def C_177_178 (E177 : Int32 → pMem → pT Int32) (P177_1 : Int32 → Int32 → Int32 → Int32 → pMem → pT Int32) (E178 : Int32 → pMem → pT Int32) (P178_1 : Int32 → Int32 → pMem → pT Int32) (P178_11 : Int32 → Int32 → Int32 → pMem → pT Int32) : Prop := (∀ (p1 : Int32) M v N, S_177_e E177 P177_1 E178 P178_1 P178_11 p1 M v N → E177 p1 M v N) ∧ (∀ (p1 : Int32) (x2 : Int32) (x3 : Int32) (x4 : Int32) M v N, S_177_1 E177 P177_1 E178 P178_1 P178_11 p1 x2 x3 x4 M v N → P177_1 p1 x2 x3 x4 M v N) ∧ (∀ (p1 : Int32) M v N, S_178_e E177 P177_1 E178 P178_1 P178_11 p1 M v N → E178 p1 M v N) ∧ (∀ (p1 : Int32) (x2 : Int32) M v N, S_178_1 E177 P177_1 E178 P178_1 P178_11 p1 x2 M v N → P178_1 p1 x2 M v N) ∧ (∀ (p1 : Int32) (x2 : Int32) (x3 : Int32) M v N, S_178_11 E177 P177_1 E178 P178_1 P178_11 p1 x2 x3 M v N → P178_11 p1 x2 x3 M v N)
def D_177 (p1 : Int32) (M : pMem) : pT Int32 := fun v N => ∀ P : (Int32 → pMem → pT Int32) × (Int32 → Int32 → Int32 → Int32 → pMem → pT Int32) × (Int32 → pMem → pT Int32) × (Int32 → Int32 → pMem → pT Int32) × (Int32 → Int32 → Int32 → pMem → pT Int32), C_177_178 P.1 P.2.1 P.2.2.1 P.2.2.2.1 P.2.2.2.2 → P.1 p1 M v N
def D_178 (p1 : Int32) (M : pMem) : pT Int32 := fun v N => ∀ P : (Int32 → pMem → pT Int32) × (Int32 → Int32 → Int32 → Int32 → pMem → pT Int32) × (Int32 → pMem → pT Int32) × (Int32 → Int32 → pMem → pT Int32) × (Int32 → Int32 → Int32 → pMem → pT Int32), C_177_178 P.1 P.2.1 P.2.2.1 P.2.2.2.1 P.2.2.2.2 → P.2.2.1 p1 M v N
theorem K_177 {X : aX} {F d : Nat} {K : Nat → aK} (hS : pS K) (E177 : Int32 → pMem → pT Int32) (P177_1 : Int32 → Int32 → Int32 → Int32 → pMem → pT Int32) (E178 : Int32 → pMem → pT Int32) (P178_1 : Int32 → Int32 → pMem → pT Int32) (P178_11 : Int32 → Int32 → Int32 → pMem → pT Int32) (hC : C_177_178 E177 P177_1 E178 P178_1 P178_11) (hE177 : (∀ (p1 : Int32) M out, aM X F d 177 [.ref 6, .int p1] (pH K M) = some out → pG eI K out (E177 p1 M))) (hE178 : (∀ (p1 : Int32) M out, aM X F d 178 [.ref 6, .int p1] (pH K M) = some out → pG eI K out (E178 p1 M))) (p1 : Int32) {out : Option Value × aH} : ∀ f, (∀ (x2 : Int32) (x3 : Int32) (x4 : Int32) M, pm X F d 177 f 1 [.iload 4, .bipush 500, .if_icmp .ge 13] [.ref 6, .int p1, .int x2, .int x3, .int x4] [] (pH K M) out → pG eI K out (P177_1 p1 x2 x3 x4 M)) := by
  intro f
  induction f using Nat.strongRecOn with
  | _ f ih =>
    intro x2 x3 x4 M H
    refine pG_mono (fun v N h => hC.2.1 p1 x2 x3 x4 M v N h) ?_
    unfold S_177_1
    replace H := pRun (ls' := [.ref 6, .int p1, .int x2, .int x3, .int x4]) (st' := [.int (kI 500), .int x4]) 2 rfl H
    rcases pIfc (n1 := 13) rfl (mcb_177 rfl) (mcb_177 rfl) H with ⟨g1, g0, _, H⟩ | ⟨g1, g0, _, H⟩
    · refine pG_pos (c := (kI 500) ≤ x4) g1 ?_
      replace H := pRun (ls' := [.ref 6, .int p1, .int x2, .int x3, .int x4]) (st' := [.int (kI 0)]) 1 rfl H
      exact pG_ret (pRetI H)
    · refine pG_neg (c := (kI 500) ≤ x4) g1 ?_
      replace H := pRun (ls' := [.ref 6, .int p1, .int x2, .int x3, .int x4]) (st' := [.int p1, .ref 6]) 2 rfl H
      obtain ⟨rv, h1, hc, H⟩ := pCalV 178 1 6 (as := [.int p1]) (rest := []) rfl (by decide) (by decide +kernel) rfl rfl H
      obtain ⟨v1, M1, hD, H⟩ := pUseI (hE178 _ _ _ hc) H
      refine pG_call (x := v1) (M1 := M1) hD ?_
      rcases pIf0 (n1 := 4) rfl (mcb_177 rfl) (mcb_177 rfl) H with ⟨g2, g0, _, H⟩ | ⟨g2, g0, _, H⟩
      · refine pG_pos (c := ¬ v1 = 0) g2 ?_
        replace H := pRun (ls' := [.ref 6, .int p1, .int x2, .int x3, .int x4]) (st' := [.int (kI 22), .int x3]) 2 rfl H
        rcases pIfc (n1 := 6) rfl (mcb_177 rfl) (mcb_177 rfl) H with ⟨g3, g0, _, H⟩ | ⟨g3, g0, _, H⟩
        · refine pG_pos (c := ¬ x3 = (kI 22)) g3 ?_
          replace H := pRun (ls' := [.ref 6, .int p1, .int x2, .int x3, .int x4]) (st' := [.ref 6]) 1 rfl H
          obtain ⟨rv, h1, hc, H⟩ := pCalV 171 0 6 (as := []) (rest := []) rfl (by decide) (by decide +kernel) rfl rfl H
          replace H := pUseF (f_171_ok hS hc) H
          replace H := pRun (ls' := [.ref 6, .int p1, .int x2, .int (f_171 M1), .int x4]) (st' := [.int (kI 22), .int (f_171 M1)]) 3 rfl H
          rcases pIfc (n1 := 12) rfl (mcb_177 rfl) (mcb_177 rfl) H with ⟨g4, g0, _, H⟩ | ⟨g4, g0, _, H⟩
          · refine pG_pos (c := (f_171 M1) = (kI 22)) g4 ?_
            replace H := pRun (ls' := [.ref 6, .int p1, .int x2, .int (f_171 M1), .int x4]) (st' := [.ref 6, .ref 6]) 2 rfl H
            replace H := pGetN (v := M1 6 3) rfl (by decide) H
            replace H := pRun (ls' := [.ref 6, .int p1, .int x2, .int (f_171 M1), .int x4]) (st' := [.int ((M1 6 3) + (kI 1)), .ref 6]) 2 rfl H
            obtain ⟨M2, eM2, H⟩ := pPutN (j := 3) rfl H
            refine pG_put (M2 := M2) eM2 ?_
            replace H := pRun (ls' := [.ref 6, .int p1, .int x2, .int (f_171 M1), .int (x4 + kI 1)]) (st' := []) 1 rfl H
            obtain ⟨g0, _, H⟩ := pGo (n1 := 1) rfl (mcb_177 rfl) H
            exact (ih _ (by omega)) _ _ _ _ H
          · refine pG_neg (c := (f_171 M1) = (kI 22)) g4 ?_
            replace H := pRun (ls' := [.ref 6, .int p1, .int x2, .int (f_171 M1), .int x4]) (st' := [.int x2]) 1 rfl H
            rcases pIf0 (n1 := 9) rfl (mcb_177 rfl) (mcb_177 rfl) H with ⟨g5, g0, _, H⟩ | ⟨g5, g0, _, H⟩
            · refine pG_pos (c := x2 = 0) g5 ?_
              replace H := pRun (ls' := [.ref 6, .int p1, .int x2, .int (f_171 M1), .int x4]) (st' := [.int (kI 21), .int (f_171 M1)]) 2 rfl H
              rcases pIfc (n1 := 11) rfl (mcb_177 rfl) (mcb_177 rfl) H with ⟨g6, g0, _, H⟩ | ⟨g6, g0, _, H⟩
              · refine pG_pos (c := (f_171 M1) = (kI 21)) g6 ?_
                replace H := pRun (ls' := [.ref 6, .int p1, .int (kI 1), .int (f_171 M1), .int x4]) (st' := []) 2 rfl H
                obtain ⟨g0, _, H⟩ := pFall (mcb_177 rfl) H
                replace H := pRun (ls' := [.ref 6, .int p1, .int (kI 1), .int (f_171 M1), .int x4]) (st' := [.ref 6, .ref 6]) 2 rfl H
                replace H := pGetN (v := M1 6 3) rfl (by decide) H
                replace H := pRun (ls' := [.ref 6, .int p1, .int (kI 1), .int (f_171 M1), .int x4]) (st' := [.int ((M1 6 3) + (kI 1)), .ref 6]) 2 rfl H
                obtain ⟨M2, eM2, H⟩ := pPutN (j := 3) rfl H
                refine pG_put (M2 := M2) eM2 ?_
                replace H := pRun (ls' := [.ref 6, .int p1, .int (kI 1), .int (f_171 M1), .int (x4 + kI 1)]) (st' := []) 1 rfl H
                obtain ⟨g0, _, H⟩ := pGo (n1 := 1) rfl (mcb_177 rfl) H
                exact (ih _ (by omega)) _ _ _ _ H
              · refine pG_neg (c := (f_171 M1) = (kI 21)) g6 ?_
                replace H := pRun (ls' := [.ref 6, .int p1, .int x2, .int (f_171 M1), .int x4]) (st' := [.int (kI 1)]) 1 rfl H
                exact pG_ret (pRetI H)
            · refine pG_neg (c := x2 = 0) g5 ?_
              replace H := pRun (ls' := [.ref 6, .int p1, .int x2, .int (f_171 M1), .int x4]) (st' := [.ref 6]) 1 rfl H
              replace H := pGetR (r := 7) (pRf hS (by decide +kernel)) rfl H
              replace H := pRun (ls' := [.ref 6, .int p1, .int x2, .int (f_171 M1), .int x4]) (st' := [.int (kI (-21)), .ref 7]) 1 rfl H
              obtain ⟨rv, h1, hc, H⟩ := pCalV 155 1 7 (as := [.int (kI (-21))]) (rest := []) rfl (by decide) (by decide +kernel) rfl rfl H
              obtain ⟨v2, M2, hD, H⟩ := pUseU (D_155_ok hS (show pK 2 7 = true by decide +kernel) hc) H
              refine pG_call (x := v2) (M1 := M2) hD ?_
              obtain ⟨g0, _, H⟩ := pFall (mcb_177 rfl) H
              replace H := pRun (ls' := [.ref 6, .int p1, .int x2, .int (f_171 M1), .int x4]) (st' := [.int (kI 21), .int (f_171 M1)]) 2 rfl H
              rcases pIfc (n1 := 11) rfl (mcb_177 rfl) (mcb_177 rfl) H with ⟨g6, g0, _, H⟩ | ⟨g6, g0, _, H⟩
              · refine pG_pos (c := (f_171 M1) = (kI 21)) g6 ?_
                replace H := pRun (ls' := [.ref 6, .int p1, .int (kI 1), .int (f_171 M1), .int x4]) (st' := []) 2 rfl H
                obtain ⟨g0, _, H⟩ := pFall (mcb_177 rfl) H
                replace H := pRun (ls' := [.ref 6, .int p1, .int (kI 1), .int (f_171 M1), .int x4]) (st' := [.ref 6, .ref 6]) 2 rfl H
                replace H := pGetN (v := M2 6 3) rfl (by decide) H
                replace H := pRun (ls' := [.ref 6, .int p1, .int (kI 1), .int (f_171 M1), .int x4]) (st' := [.int ((M2 6 3) + (kI 1)), .ref 6]) 2 rfl H
                obtain ⟨M3, eM3, H⟩ := pPutN (j := 3) rfl H
                refine pG_put (M2 := M3) eM3 ?_
                replace H := pRun (ls' := [.ref 6, .int p1, .int (kI 1), .int (f_171 M1), .int (x4 + kI 1)]) (st' := []) 1 rfl H
                obtain ⟨g0, _, H⟩ := pGo (n1 := 1) rfl (mcb_177 rfl) H
                exact (ih _ (by omega)) _ _ _ _ H
              · refine pG_neg (c := (f_171 M1) = (kI 21)) g6 ?_
                replace H := pRun (ls' := [.ref 6, .int p1, .int x2, .int (f_171 M1), .int x4]) (st' := [.int (kI 1)]) 1 rfl H
                exact pG_ret (pRetI H)
        · refine pG_neg (c := ¬ x3 = (kI 22)) g3 ?_
          replace H := pRun (ls' := [.ref 6, .int p1, .int x2, .int x3, .int x4]) (st' := [.ref 6]) 1 rfl H
          replace H := pGetR (r := 7) (pRf hS (by decide +kernel)) rfl H
          replace H := pRun (ls' := [.ref 6, .int p1, .int x2, .int x3, .int x4]) (st' := [.int (kI (-22)), .ref 7]) 1 rfl H
          obtain ⟨rv, h1, hc, H⟩ := pCalV 155 1 7 (as := [.int (kI (-22))]) (rest := []) rfl (by decide) (by decide +kernel) rfl rfl H
          obtain ⟨v2, M2, hD, H⟩ := pUseU (D_155_ok hS (show pK 2 7 = true by decide +kernel) hc) H
          refine pG_call (x := v2) (M1 := M2) hD ?_
          obtain ⟨g0, _, H⟩ := pFall (mcb_177 rfl) H
          replace H := pRun (ls' := [.ref 6, .int p1, .int x2, .int x3, .int x4]) (st' := [.ref 6]) 1 rfl H
          obtain ⟨rv, h1, hc, H⟩ := pCalV 171 0 6 (as := []) (rest := []) rfl (by decide) (by decide +kernel) rfl rfl H
          replace H := pUseF (f_171_ok hS hc) H
          replace H := pRun (ls' := [.ref 6, .int p1, .int x2, .int (f_171 M2), .int x4]) (st' := [.int (kI 22), .int (f_171 M2)]) 3 rfl H
          rcases pIfc (n1 := 12) rfl (mcb_177 rfl) (mcb_177 rfl) H with ⟨g4, g0, _, H⟩ | ⟨g4, g0, _, H⟩
          · refine pG_pos (c := (f_171 M2) = (kI 22)) g4 ?_
            replace H := pRun (ls' := [.ref 6, .int p1, .int x2, .int (f_171 M2), .int x4]) (st' := [.ref 6, .ref 6]) 2 rfl H
            replace H := pGetN (v := M2 6 3) rfl (by decide) H
            replace H := pRun (ls' := [.ref 6, .int p1, .int x2, .int (f_171 M2), .int x4]) (st' := [.int ((M2 6 3) + (kI 1)), .ref 6]) 2 rfl H
            obtain ⟨M3, eM3, H⟩ := pPutN (j := 3) rfl H
            refine pG_put (M2 := M3) eM3 ?_
            replace H := pRun (ls' := [.ref 6, .int p1, .int x2, .int (f_171 M2), .int (x4 + kI 1)]) (st' := []) 1 rfl H
            obtain ⟨g0, _, H⟩ := pGo (n1 := 1) rfl (mcb_177 rfl) H
            exact (ih _ (by omega)) _ _ _ _ H
          · refine pG_neg (c := (f_171 M2) = (kI 22)) g4 ?_
            replace H := pRun (ls' := [.ref 6, .int p1, .int x2, .int (f_171 M2), .int x4]) (st' := [.int x2]) 1 rfl H
            rcases pIf0 (n1 := 9) rfl (mcb_177 rfl) (mcb_177 rfl) H with ⟨g5, g0, _, H⟩ | ⟨g5, g0, _, H⟩
            · refine pG_pos (c := x2 = 0) g5 ?_
              replace H := pRun (ls' := [.ref 6, .int p1, .int x2, .int (f_171 M2), .int x4]) (st' := [.int (kI 21), .int (f_171 M2)]) 2 rfl H
              rcases pIfc (n1 := 11) rfl (mcb_177 rfl) (mcb_177 rfl) H with ⟨g6, g0, _, H⟩ | ⟨g6, g0, _, H⟩
              · refine pG_pos (c := (f_171 M2) = (kI 21)) g6 ?_
                replace H := pRun (ls' := [.ref 6, .int p1, .int (kI 1), .int (f_171 M2), .int x4]) (st' := []) 2 rfl H
                obtain ⟨g0, _, H⟩ := pFall (mcb_177 rfl) H
                replace H := pRun (ls' := [.ref 6, .int p1, .int (kI 1), .int (f_171 M2), .int x4]) (st' := [.ref 6, .ref 6]) 2 rfl H
                replace H := pGetN (v := M2 6 3) rfl (by decide) H
                replace H := pRun (ls' := [.ref 6, .int p1, .int (kI 1), .int (f_171 M2), .int x4]) (st' := [.int ((M2 6 3) + (kI 1)), .ref 6]) 2 rfl H
                obtain ⟨M3, eM3, H⟩ := pPutN (j := 3) rfl H
                refine pG_put (M2 := M3) eM3 ?_
                replace H := pRun (ls' := [.ref 6, .int p1, .int (kI 1), .int (f_171 M2), .int (x4 + kI 1)]) (st' := []) 1 rfl H
                obtain ⟨g0, _, H⟩ := pGo (n1 := 1) rfl (mcb_177 rfl) H
                exact (ih _ (by omega)) _ _ _ _ H
              · refine pG_neg (c := (f_171 M2) = (kI 21)) g6 ?_
                replace H := pRun (ls' := [.ref 6, .int p1, .int x2, .int (f_171 M2), .int x4]) (st' := [.int (kI 1)]) 1 rfl H
                exact pG_ret (pRetI H)
            · refine pG_neg (c := x2 = 0) g5 ?_
              replace H := pRun (ls' := [.ref 6, .int p1, .int x2, .int (f_171 M2), .int x4]) (st' := [.ref 6]) 1 rfl H
              replace H := pGetR (r := 7) (pRf hS (by decide +kernel)) rfl H
              replace H := pRun (ls' := [.ref 6, .int p1, .int x2, .int (f_171 M2), .int x4]) (st' := [.int (kI (-21)), .ref 7]) 1 rfl H
              obtain ⟨rv, h1, hc, H⟩ := pCalV 155 1 7 (as := [.int (kI (-21))]) (rest := []) rfl (by decide) (by decide +kernel) rfl rfl H
              obtain ⟨v3, M3, hD, H⟩ := pUseU (D_155_ok hS (show pK 2 7 = true by decide +kernel) hc) H
              refine pG_call (x := v3) (M1 := M3) hD ?_
              obtain ⟨g0, _, H⟩ := pFall (mcb_177 rfl) H
              replace H := pRun (ls' := [.ref 6, .int p1, .int x2, .int (f_171 M2), .int x4]) (st' := [.int (kI 21), .int (f_171 M2)]) 2 rfl H
              rcases pIfc (n1 := 11) rfl (mcb_177 rfl) (mcb_177 rfl) H with ⟨g6, g0, _, H⟩ | ⟨g6, g0, _, H⟩
              · refine pG_pos (c := (f_171 M2) = (kI 21)) g6 ?_
                replace H := pRun (ls' := [.ref 6, .int p1, .int (kI 1), .int (f_171 M2), .int x4]) (st' := []) 2 rfl H
                obtain ⟨g0, _, H⟩ := pFall (mcb_177 rfl) H
                replace H := pRun (ls' := [.ref 6, .int p1, .int (kI 1), .int (f_171 M2), .int x4]) (st' := [.ref 6, .ref 6]) 2 rfl H
                replace H := pGetN (v := M3 6 3) rfl (by decide) H
                replace H := pRun (ls' := [.ref 6, .int p1, .int (kI 1), .int (f_171 M2), .int x4]) (st' := [.int ((M3 6 3) + (kI 1)), .ref 6]) 2 rfl H
                obtain ⟨M4, eM4, H⟩ := pPutN (j := 3) rfl H
                refine pG_put (M2 := M4) eM4 ?_
                replace H := pRun (ls' := [.ref 6, .int p1, .int (kI 1), .int (f_171 M2), .int (x4 + kI 1)]) (st' := []) 1 rfl H
                obtain ⟨g0, _, H⟩ := pGo (n1 := 1) rfl (mcb_177 rfl) H
                exact (ih _ (by omega)) _ _ _ _ H
              · refine pG_neg (c := (f_171 M2) = (kI 21)) g6 ?_
                replace H := pRun (ls' := [.ref 6, .int p1, .int x2, .int (f_171 M2), .int x4]) (st' := [.int (kI 1)]) 1 rfl H
                exact pG_ret (pRetI H)
      · refine pG_neg (c := ¬ v1 = 0) g2 ?_
        replace H := pRun (ls' := [.ref 6, .int p1, .int x2, .int x3, .int x4]) (st' := [.int (kI 0)]) 1 rfl H
        exact pG_ret (pRetI H)
theorem K_178 {X : aX} {F d : Nat} {K : Nat → aK} (hS : pS K) (E177 : Int32 → pMem → pT Int32) (P177_1 : Int32 → Int32 → Int32 → Int32 → pMem → pT Int32) (E178 : Int32 → pMem → pT Int32) (P178_1 : Int32 → Int32 → pMem → pT Int32) (P178_11 : Int32 → Int32 → Int32 → pMem → pT Int32) (hC : C_177_178 E177 P177_1 E178 P178_1 P178_11) (hE177 : (∀ (p1 : Int32) M out, aM X F d 177 [.ref 6, .int p1] (pH K M) = some out → pG eI K out (E177 p1 M))) (hE178 : (∀ (p1 : Int32) M out, aM X F d 178 [.ref 6, .int p1] (pH K M) = some out → pG eI K out (E178 p1 M))) (p1 : Int32) {out : Option Value × aH} : ∀ f, (∀ (x2 : Int32) (u3 : Value) (u4 : Value) (u5 : Value) M, pm X F d 178 f 1 [.aload 0, .invokevirtual 762171, .bipush 23, .if_icmp .ne 4] [.ref 6, .int p1, .int x2, u3, u4, u5] [] (pH K M) out → pG eI K out (P178_1 p1 x2 M)) ∧ (∀ (x2 : Int32) (x3 : Int32) (u4 : Value) (u5 : Value) M, pm X F d 178 f 11 [.iload 3, .ifCond .eq 17] [.ref 6, .int p1, .int x2, .int x3, u4, u5] [] (pH K M) out → pG eI K out (P178_11 p1 x2 x3 M)) := by
  intro f
  induction f using Nat.strongRecOn with
  | _ f ih =>
    refine ⟨?_, ?_⟩
    · intro x2 u3 u4 u5 M H
      refine pG_mono (fun v N h => hC.2.2.2.1 p1 x2 M v N h) ?_
      unfold S_178_1
      replace H := pRun (ls' := [.ref 6, .int p1, .int x2, u3, u4, u5]) (st' := [.ref 6]) 1 rfl H
      obtain ⟨rv, h1, hc, H⟩ := pCalV 171 0 6 (as := []) (rest := []) rfl (by decide) (by decide +kernel) rfl rfl H
      replace H := pUseF (f_171_ok hS hc) H
      replace H := pRun (ls' := [.ref 6, .int p1, .int x2, u3, u4, u5]) (st' := [.int (kI 23), .int (f_171 M)]) 1 rfl H
      rcases pIfc (n1 := 4) rfl (mcb_178 rfl) (mcb_178 rfl) H with ⟨g1, g0, _, H⟩ | ⟨g1, g0, _, H⟩
      · refine pG_pos (c := ¬ (f_171 M) = (kI 23)) g1 ?_
        replace H := pRun (ls' := [.ref 6, .int p1, .int x2, u3, u4, u5]) (st' := [.ref 6]) 1 rfl H
        obtain ⟨rv, h1, hc, H⟩ := pCalV 171 0 6 (as := []) (rest := []) rfl (by decide) (by decide +kernel) rfl rfl H
        replace H := pUseF (f_171_ok hS hc) H
        replace H := pRun (ls' := [.ref 6, .int p1, .int x2, u3, u4, u5]) (st' := [.int (kI 40), .int (f_171 M)]) 1 rfl H
        rcases pIfc (n1 := 6) rfl (mcb_178 rfl) (mcb_178 rfl) H with ⟨g2, g0, _, H⟩ | ⟨g2, g0, _, H⟩
        · refine pG_pos (c := ¬ (f_171 M) = (kI 40)) g2 ?_
          replace H := pRun (ls' := [.ref 6, .int p1, .int x2, u3, u4, u5]) (st' := [.int (kI 0)]) 1 rfl H
          obtain ⟨g0, _, H⟩ := pFall (mcb_178 rfl) H
          replace H := pRun (ls' := [.ref 6, .int p1, .int x2, .int (kI 0), u4, u5]) (st' := [.int (kI 8), .int x2]) 3 rfl H
          rcases pIfc (n1 := 11) rfl (mcb_178 rfl) (mcb_178 rfl) H with ⟨g3, g0, _, H⟩ | ⟨g3, g0, _, H⟩
          · refine pG_pos (c := x2 < (kI 8)) g3 ?_
            exact (ih _ (by omega)).2 _ _ _ _ _ H
          · refine pG_neg (c := x2 < (kI 8)) g3 ?_
            replace H := pRun (ls' := [.ref 6, .int p1, .int x2, .int (kI 0), u4, u5]) (st' := [.int (kI 0)]) 1 rfl H
            rcases pIf0 (n1 := 10) rfl (mcb_178 rfl) (mcb_178 rfl) H with ⟨g4, g0, _, H⟩ | ⟨g4, g0, _, H⟩
            · exact absurd (show ¬ (kI 0) = 0 from g4) (by decide)
            · replace H := pRun (ls' := [.ref 6, .int p1, .int x2, .int (kI 0), u4, u5]) (st' := [.ref 6]) 1 rfl H
              obtain ⟨rv, h1, hc, H⟩ := pCalV 171 0 6 (as := []) (rest := []) rfl (by decide) (by decide +kernel) rfl rfl H
              replace H := pUseF (f_171_ok hS hc) H
              replace H := pRun (ls' := [.ref 6, .int p1, .int x2, .int (kI 0), u4, u5]) (st' := [.int (kI 23), .int (f_171 M)]) 1 rfl H
              rcases pIfc (n1 := 11) rfl (mcb_178 rfl) (mcb_178 rfl) H with ⟨g5, g0, _, H⟩ | ⟨g5, g0, _, H⟩
              · refine pG_pos (c := ¬ (f_171 M) = (kI 23)) g5 ?_
                exact (ih _ (by omega)).2 _ _ _ _ _ H
              · refine pG_neg (c := ¬ (f_171 M) = (kI 23)) g5 ?_
                replace H := pRun (ls' := [.ref 6, .int p1, .int x2, .int (kI 0), u4, u5]) (st' := [.int (kI 3), .ref 6]) 2 rfl H
                obtain ⟨rv, h1, hc, H⟩ := pCalV 173 1 6 (as := [.int (kI 3)]) (rest := []) rfl (by decide) (by decide +kernel) rfl rfl H
                obtain ⟨v1, M1, hD, H⟩ := pUseI (D_173_ok hS hc) H
                refine pG_call (x := v1) (M1 := M1) hD ?_
                exact pG_ret (pRetI H)
        · refine pG_neg (c := ¬ (f_171 M) = (kI 40)) g2 ?_
          replace H := pRun (ls' := [.ref 6, .int p1, .int x2, u3, u4, u5]) (st' := [.int (kI 1)]) 1 rfl H
          obtain ⟨g0, _, H⟩ := pGo (n1 := 7) rfl (mcb_178 rfl) H
          replace H := pRun (ls' := [.ref 6, .int p1, .int x2, .int (kI 1), u4, u5]) (st' := [.int (kI 8), .int x2]) 3 rfl H
          rcases pIfc (n1 := 11) rfl (mcb_178 rfl) (mcb_178 rfl) H with ⟨g3, g0, _, H⟩ | ⟨g3, g0, _, H⟩
          · refine pG_pos (c := x2 < (kI 8)) g3 ?_
            exact (ih _ (by omega)).2 _ _ _ _ _ H
          · refine pG_neg (c := x2 < (kI 8)) g3 ?_
            replace H := pRun (ls' := [.ref 6, .int p1, .int x2, .int (kI 1), u4, u5]) (st' := [.int (kI 1)]) 1 rfl H
            rcases pIf0 (n1 := 10) rfl (mcb_178 rfl) (mcb_178 rfl) H with ⟨g4, g0, _, H⟩ | ⟨g4, g0, _, H⟩
            · replace H := pRun (ls' := [.ref 6, .int p1, .int x2, .int (kI 1), u4, u5]) (st' := [.int (kI 3), .ref 6]) 2 rfl H
              obtain ⟨rv, h1, hc, H⟩ := pCalV 173 1 6 (as := [.int (kI 3)]) (rest := []) rfl (by decide) (by decide +kernel) rfl rfl H
              obtain ⟨v1, M1, hD, H⟩ := pUseI (D_173_ok hS hc) H
              refine pG_call (x := v1) (M1 := M1) hD ?_
              exact pG_ret (pRetI H)
            · exact absurd (show ¬ (¬ (kI 1) = 0) from g4) (by decide)
      · refine pG_neg (c := ¬ (f_171 M) = (kI 23)) g1 ?_
        replace H := pRun (ls' := [.ref 6, .int p1, .int x2, u3, u4, u5]) (st' := [.int (kI 8), .int x2]) 2 rfl H
        rcases pIfc (n1 := 4) rfl (mcb_178 rfl) (mcb_178 rfl) H with ⟨g2, g0, _, H⟩ | ⟨g2, g0, _, H⟩
        · refine pG_pos (c := (kI 8) ≤ x2) g2 ?_
          replace H := pRun (ls' := [.ref 6, .int p1, .int x2, u3, u4, u5]) (st' := [.ref 6]) 1 rfl H
          obtain ⟨rv, h1, hc, H⟩ := pCalV 171 0 6 (as := []) (rest := []) rfl (by decide) (by decide +kernel) rfl rfl H
          replace H := pUseF (f_171_ok hS hc) H
          replace H := pRun (ls' := [.ref 6, .int p1, .int x2, u3, u4, u5]) (st' := [.int (kI 40), .int (f_171 M)]) 1 rfl H
          rcases pIfc (n1 := 6) rfl (mcb_178 rfl) (mcb_178 rfl) H with ⟨g3, g0, _, H⟩ | ⟨g3, g0, _, H⟩
          · refine pG_pos (c := ¬ (f_171 M) = (kI 40)) g3 ?_
            replace H := pRun (ls' := [.ref 6, .int p1, .int x2, u3, u4, u5]) (st' := [.int (kI 0)]) 1 rfl H
            obtain ⟨g0, _, H⟩ := pFall (mcb_178 rfl) H
            replace H := pRun (ls' := [.ref 6, .int p1, .int x2, .int (kI 0), u4, u5]) (st' := [.int (kI 8), .int x2]) 3 rfl H
            rcases pIfc (n1 := 11) rfl (mcb_178 rfl) (mcb_178 rfl) H with ⟨g4, g0, _, H⟩ | ⟨g4, g0, _, H⟩
            · refine pG_pos (c := x2 < (kI 8)) g4 ?_
              exact (ih _ (by omega)).2 _ _ _ _ _ H
            · refine pG_neg (c := x2 < (kI 8)) g4 ?_
              replace H := pRun (ls' := [.ref 6, .int p1, .int x2, .int (kI 0), u4, u5]) (st' := [.int (kI 0)]) 1 rfl H
              rcases pIf0 (n1 := 10) rfl (mcb_178 rfl) (mcb_178 rfl) H with ⟨g5, g0, _, H⟩ | ⟨g5, g0, _, H⟩
              · exact absurd (show ¬ (kI 0) = 0 from g5) (by decide)
              · replace H := pRun (ls' := [.ref 6, .int p1, .int x2, .int (kI 0), u4, u5]) (st' := [.ref 6]) 1 rfl H
                obtain ⟨rv, h1, hc, H⟩ := pCalV 171 0 6 (as := []) (rest := []) rfl (by decide) (by decide +kernel) rfl rfl H
                replace H := pUseF (f_171_ok hS hc) H
                replace H := pRun (ls' := [.ref 6, .int p1, .int x2, .int (kI 0), u4, u5]) (st' := [.int (kI 23), .int (f_171 M)]) 1 rfl H
                rcases pIfc (n1 := 11) rfl (mcb_178 rfl) (mcb_178 rfl) H with ⟨g6, g0, _, H⟩ | ⟨g6, g0, _, H⟩
                · refine pG_pos (c := ¬ (f_171 M) = (kI 23)) g6 ?_
                  exact (ih _ (by omega)).2 _ _ _ _ _ H
                · refine pG_neg (c := ¬ (f_171 M) = (kI 23)) g6 ?_
                  replace H := pRun (ls' := [.ref 6, .int p1, .int x2, .int (kI 0), u4, u5]) (st' := [.int (kI 3), .ref 6]) 2 rfl H
                  obtain ⟨rv, h1, hc, H⟩ := pCalV 173 1 6 (as := [.int (kI 3)]) (rest := []) rfl (by decide) (by decide +kernel) rfl rfl H
                  obtain ⟨v1, M1, hD, H⟩ := pUseI (D_173_ok hS hc) H
                  refine pG_call (x := v1) (M1 := M1) hD ?_
                  exact pG_ret (pRetI H)
          · refine pG_neg (c := ¬ (f_171 M) = (kI 40)) g3 ?_
            replace H := pRun (ls' := [.ref 6, .int p1, .int x2, u3, u4, u5]) (st' := [.int (kI 1)]) 1 rfl H
            obtain ⟨g0, _, H⟩ := pGo (n1 := 7) rfl (mcb_178 rfl) H
            replace H := pRun (ls' := [.ref 6, .int p1, .int x2, .int (kI 1), u4, u5]) (st' := [.int (kI 8), .int x2]) 3 rfl H
            rcases pIfc (n1 := 11) rfl (mcb_178 rfl) (mcb_178 rfl) H with ⟨g4, g0, _, H⟩ | ⟨g4, g0, _, H⟩
            · refine pG_pos (c := x2 < (kI 8)) g4 ?_
              exact (ih _ (by omega)).2 _ _ _ _ _ H
            · refine pG_neg (c := x2 < (kI 8)) g4 ?_
              replace H := pRun (ls' := [.ref 6, .int p1, .int x2, .int (kI 1), u4, u5]) (st' := [.int (kI 1)]) 1 rfl H
              rcases pIf0 (n1 := 10) rfl (mcb_178 rfl) (mcb_178 rfl) H with ⟨g5, g0, _, H⟩ | ⟨g5, g0, _, H⟩
              · replace H := pRun (ls' := [.ref 6, .int p1, .int x2, .int (kI 1), u4, u5]) (st' := [.int (kI 3), .ref 6]) 2 rfl H
                obtain ⟨rv, h1, hc, H⟩ := pCalV 173 1 6 (as := [.int (kI 3)]) (rest := []) rfl (by decide) (by decide +kernel) rfl rfl H
                obtain ⟨v1, M1, hD, H⟩ := pUseI (D_173_ok hS hc) H
                refine pG_call (x := v1) (M1 := M1) hD ?_
                exact pG_ret (pRetI H)
              · exact absurd (show ¬ (¬ (kI 1) = 0) from g5) (by decide)
        · refine pG_neg (c := (kI 8) ≤ x2) g2 ?_
          replace H := pRun (ls' := [.ref 6, .int p1, .int x2, u3, u4, u5]) (st' := [.ref 6, .ref 6]) 2 rfl H
          replace H := pGetN (v := M 6 3) rfl (by decide) H
          replace H := pRun (ls' := [.ref 6, .int p1, .int x2, u3, u4, u5]) (st' := [.int ((M 6 3) + (kI 1)), .ref 6]) 2 rfl H
          obtain ⟨M1, eM1, H⟩ := pPutN (j := 3) rfl H
          refine pG_put (M2 := M1) eM1 ?_
          replace H := pRun (ls' := [.ref 6, .int p1, .int (x2 + kI 1), u3, u4, u5]) (st' := []) 1 rfl H
          obtain ⟨g0, _, H⟩ := pGo (n1 := 1) rfl (mcb_178 rfl) H
          exact (ih _ (by omega)).1 _ _ _ _ _ H
    · intro x2 x3 u4 u5 M H
      refine pG_mono (fun v N h => hC.2.2.2.2 p1 x2 x3 M v N h) ?_
      unfold S_178_11
      replace H := pRun (ls' := [.ref 6, .int p1, .int x2, .int x3, u4, u5]) (st' := [.int x3]) 1 rfl H
      rcases pIf0 (n1 := 17) rfl (mcb_178 rfl) (mcb_178 rfl) H with ⟨g1, g0, _, H⟩ | ⟨g1, g0, _, H⟩
      · refine pG_pos (c := x3 = 0) g1 ?_
        replace H := pRun (ls' := [.ref 6, .int p1, .int x2, .int x3, u4, u5]) (st' := [.ref 6]) 1 rfl H
        obtain ⟨rv, h1, hc, H⟩ := pCalV 179 0 6 (as := []) (rest := []) rfl (by decide) (by decide +kernel) rfl rfl H
        obtain ⟨v1, M1, hD, H⟩ := pUseI (D_179_ok hS hc) H
        refine pG_call (x := v1) (M1 := M1) hD ?_
        replace H := pRun (ls' := [.ref 6, .int p1, .int x2, .int x3, .int v1, u5]) (st' := [.ref 6]) 2 rfl H
        obtain ⟨rv, h1, hc, H⟩ := pCalV 171 0 6 (as := []) (rest := []) rfl (by decide) (by decide +kernel) rfl rfl H
        replace H := pUseF (f_171_ok hS hc) H
        replace H := pRun (ls' := [.ref 6, .int p1, .int x2, .int x3, .int v1, .int (f_171 M1)]) (st' := [.int v1]) 2 rfl H
        rcases pIf0 (n1 := 21) rfl (mcb_178 rfl) (mcb_178 rfl) H with ⟨g2, g0, _, H⟩ | ⟨g2, g0, _, H⟩
        · refine pG_pos (c := v1 = 0) g2 ?_
          replace H := pRun (ls' := [.ref 6, .int p1, .int x2, .int x3, .int v1, .int (f_171 M1)]) (st' := [.int (kI 0)]) 1 rfl H
          obtain ⟨g0, _, H⟩ := pFall (mcb_178 rfl) H
          replace H := pRun (ls' := [.ref 6, .int p1, .int x2, .int x3, .int (kI 0), .int (f_171 M1)]) (st' := [.ref 6]) 2 rfl H
          replace H := pGetR (r := 7) (pRf hS (by decide +kernel)) rfl H
          replace H := pRun (ls' := [.ref 6, .int p1, .int x2, .int x3, .int (kI 0), .int (f_171 M1)]) (st' := [.int (-(f_171 M1)), .ref 7]) 2 rfl H
          obtain ⟨rv, h1, hc, H⟩ := pCalV 155 1 7 (as := [.int (-(f_171 M1))]) (rest := []) rfl (by decide) (by decide +kernel) rfl rfl H
          obtain ⟨v2, M2, hD, H⟩ := pUseU (D_155_ok hS (show pK 2 7 = true by decide +kernel) hc) H
          refine pG_call (x := v2) (M1 := M2) hD ?_
          obtain ⟨g0, _, H⟩ := pFall (mcb_178 rfl) H
          replace H := pRun (ls' := [.ref 6, .int p1, .int x2, .int x3, .int (kI 0), .int (f_171 M1)]) (st' := [.int (kI 2), .int (x2 - p1)]) 4 rfl H
          obtain ⟨g3, H⟩ := pRmd H
          refine pG_gd g3 ?_
          replace H := pRun (ls' := [.ref 6, .int p1, .int x2, .int x3, .int (kI 0), .int (f_171 M1)]) (st' := [.int (kI 1), .int (pRem (x2 - p1) (kI 2))]) 1 rfl H
          rcases pIfc (n1 := 25) rfl (mcb_178 rfl) (mcb_178 rfl) H with ⟨g4, g0, _, H⟩ | ⟨g4, g0, _, H⟩
          · refine pG_pos (c := ¬ (pRem (x2 - p1) (kI 2)) = (kI 1)) g4 ?_
            replace H := pRun (ls' := [.ref 6, .int p1, .int x2, .int x3, .int (kI 0), .int (f_171 M1)]) (st' := [.int (kI 0)]) 1 rfl H
            exact pG_ret (pRetI H)
          · refine pG_neg (c := ¬ (pRem (x2 - p1) (kI 2)) = (kI 1)) g4 ?_
            replace H := pRun (ls' := [.ref 6, .int p1, .int x2, .int x3, .int (kI 0), .int (f_171 M1)]) (st' := [.ref 6]) 1 rfl H
            replace H := pGetR (r := 7) (pRf hS (by decide +kernel)) rfl H
            replace H := pRun (ls' := [.ref 6, .int p1, .int x2, .int x3, .int (kI 0), .int (f_171 M1)]) (st' := [.int (kI (-23)), .ref 7]) 1 rfl H
            obtain ⟨rv, h1, hc, H⟩ := pCalV 155 1 7 (as := [.int (kI (-23))]) (rest := []) rfl (by decide) (by decide +kernel) rfl rfl H
            obtain ⟨v3, M3, hD, H⟩ := pUseU (D_155_ok hS (show pK 2 7 = true by decide +kernel) hc) H
            refine pG_call (x := v3) (M1 := M3) hD ?_
            obtain ⟨g0, _, H⟩ := pFall (mcb_178 rfl) H
            replace H := pRun (ls' := [.ref 6, .int p1, .int x2, .int x3, .int (kI 0), .int (f_171 M1)]) (st' := [.int (kI 0)]) 1 rfl H
            exact pG_ret (pRetI H)
        · refine pG_neg (c := v1 = 0) g2 ?_
          replace H := pRun (ls' := [.ref 6, .int p1, .int x2, .int x3, .int v1, .int (f_171 M1)]) (st' := [.int (kI 62), .int (kI 60), .ref 6]) 3 rfl H
          obtain ⟨rv, h1, hc, H⟩ := pCalV 176 2 6 (as := [.int (kI 60), .int (kI 62)]) (rest := []) rfl (by decide) (by decide +kernel) rfl rfl H
          obtain ⟨v2, M2, hD, H⟩ := pUseI (D_176_ok hS hc) H
          refine pG_call (x := v2) (M1 := M2) hD ?_
          rcases pIf0 (n1 := 21) rfl (mcb_178 rfl) (mcb_178 rfl) H with ⟨g3, g0, _, H⟩ | ⟨g3, g0, _, H⟩
          · refine pG_pos (c := v2 = 0) g3 ?_
            replace H := pRun (ls' := [.ref 6, .int p1, .int x2, .int x3, .int v1, .int (f_171 M1)]) (st' := [.int (kI 0)]) 1 rfl H
            obtain ⟨g0, _, H⟩ := pFall (mcb_178 rfl) H
            replace H := pRun (ls' := [.ref 6, .int p1, .int x2, .int x3, .int (kI 0), .int (f_171 M1)]) (st' := [.ref 6]) 2 rfl H
            replace H := pGetR (r := 7) (pRf hS (by decide +kernel)) rfl H
            replace H := pRun (ls' := [.ref 6, .int p1, .int x2, .int x3, .int (kI 0), .int (f_171 M1)]) (st' := [.int (-(f_171 M1)), .ref 7]) 2 rfl H
            obtain ⟨rv, h1, hc, H⟩ := pCalV 155 1 7 (as := [.int (-(f_171 M1))]) (rest := []) rfl (by decide) (by decide +kernel) rfl rfl H
            obtain ⟨v3, M3, hD, H⟩ := pUseU (D_155_ok hS (show pK 2 7 = true by decide +kernel) hc) H
            refine pG_call (x := v3) (M1 := M3) hD ?_
            obtain ⟨g0, _, H⟩ := pFall (mcb_178 rfl) H
            replace H := pRun (ls' := [.ref 6, .int p1, .int x2, .int x3, .int (kI 0), .int (f_171 M1)]) (st' := [.int (kI 2), .int (x2 - p1)]) 4 rfl H
            obtain ⟨g4, H⟩ := pRmd H
            refine pG_gd g4 ?_
            replace H := pRun (ls' := [.ref 6, .int p1, .int x2, .int x3, .int (kI 0), .int (f_171 M1)]) (st' := [.int (kI 1), .int (pRem (x2 - p1) (kI 2))]) 1 rfl H
            rcases pIfc (n1 := 25) rfl (mcb_178 rfl) (mcb_178 rfl) H with ⟨g5, g0, _, H⟩ | ⟨g5, g0, _, H⟩
            · refine pG_pos (c := ¬ (pRem (x2 - p1) (kI 2)) = (kI 1)) g5 ?_
              replace H := pRun (ls' := [.ref 6, .int p1, .int x2, .int x3, .int (kI 0), .int (f_171 M1)]) (st' := [.int (kI 0)]) 1 rfl H
              exact pG_ret (pRetI H)
            · refine pG_neg (c := ¬ (pRem (x2 - p1) (kI 2)) = (kI 1)) g5 ?_
              replace H := pRun (ls' := [.ref 6, .int p1, .int x2, .int x3, .int (kI 0), .int (f_171 M1)]) (st' := [.ref 6]) 1 rfl H
              replace H := pGetR (r := 7) (pRf hS (by decide +kernel)) rfl H
              replace H := pRun (ls' := [.ref 6, .int p1, .int x2, .int x3, .int (kI 0), .int (f_171 M1)]) (st' := [.int (kI (-23)), .ref 7]) 1 rfl H
              obtain ⟨rv, h1, hc, H⟩ := pCalV 155 1 7 (as := [.int (kI (-23))]) (rest := []) rfl (by decide) (by decide +kernel) rfl rfl H
              obtain ⟨v4, M4, hD, H⟩ := pUseU (D_155_ok hS (show pK 2 7 = true by decide +kernel) hc) H
              refine pG_call (x := v4) (M1 := M4) hD ?_
              obtain ⟨g0, _, H⟩ := pFall (mcb_178 rfl) H
              replace H := pRun (ls' := [.ref 6, .int p1, .int x2, .int x3, .int (kI 0), .int (f_171 M1)]) (st' := [.int (kI 0)]) 1 rfl H
              exact pG_ret (pRetI H)
          · refine pG_neg (c := v2 = 0) g3 ?_
            replace H := pRun (ls' := [.ref 6, .int p1, .int x2, .int x3, .int v1, .int (f_171 M1)]) (st' := [.ref 6]) 1 rfl H
            obtain ⟨rv, h1, hc, H⟩ := pCalV 179 0 6 (as := []) (rest := []) rfl (by decide) (by decide +kernel) rfl rfl H
            obtain ⟨v3, M3, hD, H⟩ := pUseI (D_179_ok hS hc) H
            refine pG_call (x := v3) (M1 := M3) hD ?_
            rcases pIf0 (n1 := 21) rfl (mcb_178 rfl) (mcb_178 rfl) H with ⟨g4, g0, _, H⟩ | ⟨g4, g0, _, H⟩
            · refine pG_pos (c := v3 = 0) g4 ?_
              replace H := pRun (ls' := [.ref 6, .int p1, .int x2, .int x3, .int v1, .int (f_171 M1)]) (st' := [.int (kI 0)]) 1 rfl H
              obtain ⟨g0, _, H⟩ := pFall (mcb_178 rfl) H
              replace H := pRun (ls' := [.ref 6, .int p1, .int x2, .int x3, .int (kI 0), .int (f_171 M1)]) (st' := [.ref 6]) 2 rfl H
              replace H := pGetR (r := 7) (pRf hS (by decide +kernel)) rfl H
              replace H := pRun (ls' := [.ref 6, .int p1, .int x2, .int x3, .int (kI 0), .int (f_171 M1)]) (st' := [.int (-(f_171 M1)), .ref 7]) 2 rfl H
              obtain ⟨rv, h1, hc, H⟩ := pCalV 155 1 7 (as := [.int (-(f_171 M1))]) (rest := []) rfl (by decide) (by decide +kernel) rfl rfl H
              obtain ⟨v4, M4, hD, H⟩ := pUseU (D_155_ok hS (show pK 2 7 = true by decide +kernel) hc) H
              refine pG_call (x := v4) (M1 := M4) hD ?_
              obtain ⟨g0, _, H⟩ := pFall (mcb_178 rfl) H
              replace H := pRun (ls' := [.ref 6, .int p1, .int x2, .int x3, .int (kI 0), .int (f_171 M1)]) (st' := [.int (kI 2), .int (x2 - p1)]) 4 rfl H
              obtain ⟨g5, H⟩ := pRmd H
              refine pG_gd g5 ?_
              replace H := pRun (ls' := [.ref 6, .int p1, .int x2, .int x3, .int (kI 0), .int (f_171 M1)]) (st' := [.int (kI 1), .int (pRem (x2 - p1) (kI 2))]) 1 rfl H
              rcases pIfc (n1 := 25) rfl (mcb_178 rfl) (mcb_178 rfl) H with ⟨g6, g0, _, H⟩ | ⟨g6, g0, _, H⟩
              · refine pG_pos (c := ¬ (pRem (x2 - p1) (kI 2)) = (kI 1)) g6 ?_
                replace H := pRun (ls' := [.ref 6, .int p1, .int x2, .int x3, .int (kI 0), .int (f_171 M1)]) (st' := [.int (kI 0)]) 1 rfl H
                exact pG_ret (pRetI H)
              · refine pG_neg (c := ¬ (pRem (x2 - p1) (kI 2)) = (kI 1)) g6 ?_
                replace H := pRun (ls' := [.ref 6, .int p1, .int x2, .int x3, .int (kI 0), .int (f_171 M1)]) (st' := [.ref 6]) 1 rfl H
                replace H := pGetR (r := 7) (pRf hS (by decide +kernel)) rfl H
                replace H := pRun (ls' := [.ref 6, .int p1, .int x2, .int x3, .int (kI 0), .int (f_171 M1)]) (st' := [.int (kI (-23)), .ref 7]) 1 rfl H
                obtain ⟨rv, h1, hc, H⟩ := pCalV 155 1 7 (as := [.int (kI (-23))]) (rest := []) rfl (by decide) (by decide +kernel) rfl rfl H
                obtain ⟨v5, M5, hD, H⟩ := pUseU (D_155_ok hS (show pK 2 7 = true by decide +kernel) hc) H
                refine pG_call (x := v5) (M1 := M5) hD ?_
                obtain ⟨g0, _, H⟩ := pFall (mcb_178 rfl) H
                replace H := pRun (ls' := [.ref 6, .int p1, .int x2, .int x3, .int (kI 0), .int (f_171 M1)]) (st' := [.int (kI 0)]) 1 rfl H
                exact pG_ret (pRetI H)
            · refine pG_neg (c := v3 = 0) g4 ?_
              replace H := pRun (ls' := [.ref 6, .int p1, .int x2, .int x3, .int v1, .int (f_171 M1)]) (st' := [.int (kI 1)]) 1 rfl H
              obtain ⟨g0, _, H⟩ := pGo (n1 := 22) rfl (mcb_178 rfl) H
              replace H := pRun (ls' := [.ref 6, .int p1, .int x2, .int x3, .int (kI 1), .int (f_171 M1)]) (st' := [.ref 6]) 2 rfl H
              replace H := pGetR (r := 7) (pRf hS (by decide +kernel)) rfl H
              replace H := pRun (ls' := [.ref 6, .int p1, .int x2, .int x3, .int (kI 1), .int (f_171 M1)]) (st' := [.int (-(f_171 M1)), .ref 7]) 2 rfl H
              obtain ⟨rv, h1, hc, H⟩ := pCalV 155 1 7 (as := [.int (-(f_171 M1))]) (rest := []) rfl (by decide) (by decide +kernel) rfl rfl H
              obtain ⟨v4, M4, hD, H⟩ := pUseU (D_155_ok hS (show pK 2 7 = true by decide +kernel) hc) H
              refine pG_call (x := v4) (M1 := M4) hD ?_
              obtain ⟨g0, _, H⟩ := pFall (mcb_178 rfl) H
              replace H := pRun (ls' := [.ref 6, .int p1, .int x2, .int x3, .int (kI 1), .int (f_171 M1)]) (st' := [.int (kI 2), .int (x2 - p1)]) 4 rfl H
              obtain ⟨g5, H⟩ := pRmd H
              refine pG_gd g5 ?_
              replace H := pRun (ls' := [.ref 6, .int p1, .int x2, .int x3, .int (kI 1), .int (f_171 M1)]) (st' := [.int (kI 1), .int (pRem (x2 - p1) (kI 2))]) 1 rfl H
              rcases pIfc (n1 := 25) rfl (mcb_178 rfl) (mcb_178 rfl) H with ⟨g6, g0, _, H⟩ | ⟨g6, g0, _, H⟩
              · refine pG_pos (c := ¬ (pRem (x2 - p1) (kI 2)) = (kI 1)) g6 ?_
                replace H := pRun (ls' := [.ref 6, .int p1, .int x2, .int x3, .int (kI 1), .int (f_171 M1)]) (st' := [.int (kI 1)]) 1 rfl H
                exact pG_ret (pRetI H)
              · refine pG_neg (c := ¬ (pRem (x2 - p1) (kI 2)) = (kI 1)) g6 ?_
                replace H := pRun (ls' := [.ref 6, .int p1, .int x2, .int x3, .int (kI 1), .int (f_171 M1)]) (st' := [.ref 6]) 1 rfl H
                replace H := pGetR (r := 7) (pRf hS (by decide +kernel)) rfl H
                replace H := pRun (ls' := [.ref 6, .int p1, .int x2, .int x3, .int (kI 1), .int (f_171 M1)]) (st' := [.int (kI (-23)), .ref 7]) 1 rfl H
                obtain ⟨rv, h1, hc, H⟩ := pCalV 155 1 7 (as := [.int (kI (-23))]) (rest := []) rfl (by decide) (by decide +kernel) rfl rfl H
                obtain ⟨v5, M5, hD, H⟩ := pUseU (D_155_ok hS (show pK 2 7 = true by decide +kernel) hc) H
                refine pG_call (x := v5) (M1 := M5) hD ?_
                obtain ⟨g0, _, H⟩ := pFall (mcb_178 rfl) H
                replace H := pRun (ls' := [.ref 6, .int p1, .int x2, .int x3, .int (kI 1), .int (f_171 M1)]) (st' := [.int (kI 1)]) 1 rfl H
                exact pG_ret (pRetI H)
      · refine pG_neg (c := x3 = 0) g1 ?_
        replace H := pRun (ls' := [.ref 6, .int p1, .int x2, .int x3, u4, u5]) (st' := [.ref 6, .ref 6]) 2 rfl H
        replace H := pGetN (v := M 6 3) rfl (by decide) H
        replace H := pRun (ls' := [.ref 6, .int p1, .int x2, .int x3, u4, u5]) (st' := [.int ((M 6 3) + (kI 1)), .ref 6]) 2 rfl H
        obtain ⟨M1, eM1, H⟩ := pPutN (j := 3) rfl H
        refine pG_put (M2 := M1) eM1 ?_
        replace H := pRun (ls' := [.ref 6, .int p1, .int x2, .int x3, u4, u5]) (st' := [.int (x2 + (kI 1)), .ref 6]) 4 rfl H
        obtain ⟨rv, h1, hc, H⟩ := pCalV 177 1 6 (as := [.int (x2 + (kI 1))]) (rest := []) rfl (by decide) (by decide +kernel) rfl rfl H
        obtain ⟨v1, M2, hD, H⟩ := pUseI (hE177 _ _ _ hc) H
        refine pG_call (x := v1) (M1 := M2) hD ?_
        rcases pIf0 (n1 := 15) rfl (mcb_178 rfl) (mcb_178 rfl) H with ⟨g2, g0, _, H⟩ | ⟨g2, g0, _, H⟩
        · refine pG_pos (c := v1 = 0) g2 ?_
          replace H := pRun (ls' := [.ref 6, .int p1, .int x2, .int x3, u4, u5]) (st' := [.int (kI 0)]) 1 rfl H
          obtain ⟨g0, _, H⟩ := pFall (mcb_178 rfl) H
          replace H := pRun (ls' := [.ref 6, .int p1, .int x2, .int x3, .int (kI 0), u5]) (st' := []) 1 rfl H
          obtain ⟨g0, _, H⟩ := pGo (n1 := 23) rfl (mcb_178 rfl) H
          replace H := pRun (ls' := [.ref 6, .int p1, .int x2, .int x3, .int (kI 0), u5]) (st' := [.int (kI 2), .int (x2 - p1)]) 4 rfl H
          obtain ⟨g3, H⟩ := pRmd H
          refine pG_gd g3 ?_
          replace H := pRun (ls' := [.ref 6, .int p1, .int x2, .int x3, .int (kI 0), u5]) (st' := [.int (kI 1), .int (pRem (x2 - p1) (kI 2))]) 1 rfl H
          rcases pIfc (n1 := 25) rfl (mcb_178 rfl) (mcb_178 rfl) H with ⟨g4, g0, _, H⟩ | ⟨g4, g0, _, H⟩
          · refine pG_pos (c := ¬ (pRem (x2 - p1) (kI 2)) = (kI 1)) g4 ?_
            replace H := pRun (ls' := [.ref 6, .int p1, .int x2, .int x3, .int (kI 0), u5]) (st' := [.int (kI 0)]) 1 rfl H
            exact pG_ret (pRetI H)
          · refine pG_neg (c := ¬ (pRem (x2 - p1) (kI 2)) = (kI 1)) g4 ?_
            replace H := pRun (ls' := [.ref 6, .int p1, .int x2, .int x3, .int (kI 0), u5]) (st' := [.ref 6]) 1 rfl H
            replace H := pGetR (r := 7) (pRf hS (by decide +kernel)) rfl H
            replace H := pRun (ls' := [.ref 6, .int p1, .int x2, .int x3, .int (kI 0), u5]) (st' := [.int (kI (-23)), .ref 7]) 1 rfl H
            obtain ⟨rv, h1, hc, H⟩ := pCalV 155 1 7 (as := [.int (kI (-23))]) (rest := []) rfl (by decide) (by decide +kernel) rfl rfl H
            obtain ⟨v2, M3, hD, H⟩ := pUseU (D_155_ok hS (show pK 2 7 = true by decide +kernel) hc) H
            refine pG_call (x := v2) (M1 := M3) hD ?_
            obtain ⟨g0, _, H⟩ := pFall (mcb_178 rfl) H
            replace H := pRun (ls' := [.ref 6, .int p1, .int x2, .int x3, .int (kI 0), u5]) (st' := [.int (kI 0)]) 1 rfl H
            exact pG_ret (pRetI H)
        · refine pG_neg (c := v1 = 0) g2 ?_
          replace H := pRun (ls' := [.ref 6, .int p1, .int x2, .int x3, u4, u5]) (st' := [.int (kI 41), .int (kI 41), .ref 6]) 3 rfl H
          obtain ⟨rv, h1, hc, H⟩ := pCalV 176 2 6 (as := [.int (kI 41), .int (kI 41)]) (rest := []) rfl (by decide) (by decide +kernel) rfl rfl H
          obtain ⟨v2, M3, hD, H⟩ := pUseI (D_176_ok hS hc) H
          refine pG_call (x := v2) (M1 := M3) hD ?_
          rcases pIf0 (n1 := 15) rfl (mcb_178 rfl) (mcb_178 rfl) H with ⟨g3, g0, _, H⟩ | ⟨g3, g0, _, H⟩
          · refine pG_pos (c := v2 = 0) g3 ?_
            replace H := pRun (ls' := [.ref 6, .int p1, .int x2, .int x3, u4, u5]) (st' := [.int (kI 0)]) 1 rfl H
            obtain ⟨g0, _, H⟩ := pFall (mcb_178 rfl) H
            replace H := pRun (ls' := [.ref 6, .int p1, .int x2, .int x3, .int (kI 0), u5]) (st' := []) 1 rfl H
            obtain ⟨g0, _, H⟩ := pGo (n1 := 23) rfl (mcb_178 rfl) H
            replace H := pRun (ls' := [.ref 6, .int p1, .int x2, .int x3, .int (kI 0), u5]) (st' := [.int (kI 2), .int (x2 - p1)]) 4 rfl H
            obtain ⟨g4, H⟩ := pRmd H
            refine pG_gd g4 ?_
            replace H := pRun (ls' := [.ref 6, .int p1, .int x2, .int x3, .int (kI 0), u5]) (st' := [.int (kI 1), .int (pRem (x2 - p1) (kI 2))]) 1 rfl H
            rcases pIfc (n1 := 25) rfl (mcb_178 rfl) (mcb_178 rfl) H with ⟨g5, g0, _, H⟩ | ⟨g5, g0, _, H⟩
            · refine pG_pos (c := ¬ (pRem (x2 - p1) (kI 2)) = (kI 1)) g5 ?_
              replace H := pRun (ls' := [.ref 6, .int p1, .int x2, .int x3, .int (kI 0), u5]) (st' := [.int (kI 0)]) 1 rfl H
              exact pG_ret (pRetI H)
            · refine pG_neg (c := ¬ (pRem (x2 - p1) (kI 2)) = (kI 1)) g5 ?_
              replace H := pRun (ls' := [.ref 6, .int p1, .int x2, .int x3, .int (kI 0), u5]) (st' := [.ref 6]) 1 rfl H
              replace H := pGetR (r := 7) (pRf hS (by decide +kernel)) rfl H
              replace H := pRun (ls' := [.ref 6, .int p1, .int x2, .int x3, .int (kI 0), u5]) (st' := [.int (kI (-23)), .ref 7]) 1 rfl H
              obtain ⟨rv, h1, hc, H⟩ := pCalV 155 1 7 (as := [.int (kI (-23))]) (rest := []) rfl (by decide) (by decide +kernel) rfl rfl H
              obtain ⟨v3, M4, hD, H⟩ := pUseU (D_155_ok hS (show pK 2 7 = true by decide +kernel) hc) H
              refine pG_call (x := v3) (M1 := M4) hD ?_
              obtain ⟨g0, _, H⟩ := pFall (mcb_178 rfl) H
              replace H := pRun (ls' := [.ref 6, .int p1, .int x2, .int x3, .int (kI 0), u5]) (st' := [.int (kI 0)]) 1 rfl H
              exact pG_ret (pRetI H)
          · refine pG_neg (c := v2 = 0) g3 ?_
            replace H := pRun (ls' := [.ref 6, .int p1, .int x2, .int x3, u4, u5]) (st' := [.int (kI 1)]) 1 rfl H
            obtain ⟨g0, _, H⟩ := pGo (n1 := 16) rfl (mcb_178 rfl) H
            replace H := pRun (ls' := [.ref 6, .int p1, .int x2, .int x3, .int (kI 1), u5]) (st' := []) 1 rfl H
            obtain ⟨g0, _, H⟩ := pGo (n1 := 23) rfl (mcb_178 rfl) H
            replace H := pRun (ls' := [.ref 6, .int p1, .int x2, .int x3, .int (kI 1), u5]) (st' := [.int (kI 2), .int (x2 - p1)]) 4 rfl H
            obtain ⟨g4, H⟩ := pRmd H
            refine pG_gd g4 ?_
            replace H := pRun (ls' := [.ref 6, .int p1, .int x2, .int x3, .int (kI 1), u5]) (st' := [.int (kI 1), .int (pRem (x2 - p1) (kI 2))]) 1 rfl H
            rcases pIfc (n1 := 25) rfl (mcb_178 rfl) (mcb_178 rfl) H with ⟨g5, g0, _, H⟩ | ⟨g5, g0, _, H⟩
            · refine pG_pos (c := ¬ (pRem (x2 - p1) (kI 2)) = (kI 1)) g5 ?_
              replace H := pRun (ls' := [.ref 6, .int p1, .int x2, .int x3, .int (kI 1), u5]) (st' := [.int (kI 1)]) 1 rfl H
              exact pG_ret (pRetI H)
            · refine pG_neg (c := ¬ (pRem (x2 - p1) (kI 2)) = (kI 1)) g5 ?_
              replace H := pRun (ls' := [.ref 6, .int p1, .int x2, .int x3, .int (kI 1), u5]) (st' := [.ref 6]) 1 rfl H
              replace H := pGetR (r := 7) (pRf hS (by decide +kernel)) rfl H
              replace H := pRun (ls' := [.ref 6, .int p1, .int x2, .int x3, .int (kI 1), u5]) (st' := [.int (kI (-23)), .ref 7]) 1 rfl H
              obtain ⟨rv, h1, hc, H⟩ := pCalV 155 1 7 (as := [.int (kI (-23))]) (rest := []) rfl (by decide) (by decide +kernel) rfl rfl H
              obtain ⟨v3, M4, hD, H⟩ := pUseU (D_155_ok hS (show pK 2 7 = true by decide +kernel) hc) H
              refine pG_call (x := v3) (M1 := M4) hD ?_
              obtain ⟨g0, _, H⟩ := pFall (mcb_178 rfl) H
              replace H := pRun (ls' := [.ref 6, .int p1, .int x2, .int x3, .int (kI 1), u5]) (st' := [.int (kI 1)]) 1 rfl H
              exact pG_ret (pRetI H)
theorem KE_177_178 {X : aX} {F : Nat} {K : Nat → aK} (hS : pS K) (E177 : Int32 → pMem → pT Int32) (P177_1 : Int32 → Int32 → Int32 → Int32 → pMem → pT Int32) (E178 : Int32 → pMem → pT Int32) (P178_1 : Int32 → Int32 → pMem → pT Int32) (P178_11 : Int32 → Int32 → Int32 → pMem → pT Int32) (hC : C_177_178 E177 P177_1 E178 P178_1 P178_11) : ∀ d, (∀ (p1 : Int32) M out, aM X F d 177 [.ref 6, .int p1] (pH K M) = some out → pG eI K out (E177 p1 M)) ∧ (∀ (p1 : Int32) M out, aM X F d 178 [.ref 6, .int p1] (pH K M) = some out → pG eI K out (E178 p1 M)) := by
  intro d0
  induction d0 using Nat.strongRecOn with
  | _ d0 ihd =>
    refine ⟨?_, ?_⟩
    · intro p1 M out H
      obtain ⟨d', g0, _, H⟩ := pEnt (n := 5) (ls := [.ref 6, .int p1, aD, aD, aD]) (mcb_177 rfl) (by decide +kernel) rfl H
      have hE177 := (ihd d' (by omega)).1
      have hE178 := (ihd d' (by omega)).2
      refine pG_mono (fun v N h => hC.1 p1 M v N h) ?_
      unfold S_177_e
      replace H := pRun (ls' := [.ref 6, .int p1, .int (kI 0), .int (kI 102), .int (kI 0)]) (st' := []) 6 rfl H
      obtain ⟨g0, _, H⟩ := pFall (mcb_177 rfl) H
      exact (K_177 hS E177 P177_1 E178 P178_1 P178_11 hC hE177 hE178 p1 _) _ _ _ _ H
    · intro p1 M out H
      obtain ⟨d', g0, _, H⟩ := pEnt (n := 6) (ls := [.ref 6, .int p1, aD, aD, aD, aD]) (mcb_178 rfl) (by decide +kernel) rfl H
      have hE177 := (ihd d' (by omega)).1
      have hE178 := (ihd d' (by omega)).2
      refine pG_mono (fun v N h => hC.2.2.1 p1 M v N h) ?_
      unfold S_178_e
      replace H := pRun (ls' := [.ref 6, .int p1, .int p1, aD, aD, aD]) (st' := []) 2 rfl H
      obtain ⟨g0, _, H⟩ := pFall (mcb_178 rfl) H
      exact (K_178 hS E177 P177_1 E178 P178_1 P178_11 hC hE177 hE178 p1 _).1 _ _ _ _ _ H
theorem D_177_ok {X : aX} {F d : Nat} {K : Nat → aK} (hS : pS K) {p1 : Int32} {M : pMem} {out : Option Value × aH} (H : aM X F d 177 [.ref 6, .int p1] (pH K M) = some out) : pG eI K out (D_177 p1 M) := by
  refine pG_all (C := fun P : (Int32 → pMem → pT Int32) × (Int32 → Int32 → Int32 → Int32 → pMem → pT Int32) × (Int32 → pMem → pT Int32) × (Int32 → Int32 → pMem → pT Int32) × (Int32 → Int32 → Int32 → pMem → pT Int32) => C_177_178 P.1 P.2.1 P.2.2.1 P.2.2.2.1 P.2.2.2.2) (T := fun P => P.1 p1 M) eI_inj ((fun _ _ _ _ => True), (fun _ _ _ _ _ _ _ => True), (fun _ _ _ _ => True), (fun _ _ _ _ _ => True), (fun _ _ _ _ _ _ => True)) ?_ (fun P hP => (KE_177_178 hS P.1 P.2.1 P.2.2.1 P.2.2.2.1 P.2.2.2.2 hP d).1 _ _ _  H)
  exact ⟨(fun _ _ _ _ _ => trivial), (fun _ _ _ _ _ _ _ _ => trivial), (fun _ _ _ _ _ => trivial), (fun _ _ _ _ _ _ => trivial), (fun _ _ _ _ _ _ _ => trivial)⟩
theorem D_178_ok {X : aX} {F d : Nat} {K : Nat → aK} (hS : pS K) {p1 : Int32} {M : pMem} {out : Option Value × aH} (H : aM X F d 178 [.ref 6, .int p1] (pH K M) = some out) : pG eI K out (D_178 p1 M) := by
  refine pG_all (C := fun P : (Int32 → pMem → pT Int32) × (Int32 → Int32 → Int32 → Int32 → pMem → pT Int32) × (Int32 → pMem → pT Int32) × (Int32 → Int32 → pMem → pT Int32) × (Int32 → Int32 → Int32 → pMem → pT Int32) => C_177_178 P.1 P.2.1 P.2.2.1 P.2.2.2.1 P.2.2.2.2) (T := fun P => P.2.2.1 p1 M) eI_inj ((fun _ _ _ _ => True), (fun _ _ _ _ _ _ _ => True), (fun _ _ _ _ => True), (fun _ _ _ _ _ => True), (fun _ _ _ _ _ _ => True)) ?_ (fun P hP => (KE_177_178 hS P.1 P.2.1 P.2.2.1 P.2.2.2.1 P.2.2.2.2 hP d).2 _ _ _  H)
  exact ⟨(fun _ _ _ _ _ => trivial), (fun _ _ _ _ _ _ _ _ => trivial), (fun _ _ _ _ _ => trivial), (fun _ _ _ _ _ _ => trivial), (fun _ _ _ _ _ _ _ => trivial)⟩
def l_177_178 : List (Nat × Nat) := [(6, 3), (12, 999), (7, 1), (6, 4), (6, 5)]
theorem FC_177_178 : C_177_178 (fun _ M _ N => pFr l_177_178 M N) (fun _ _ _ _ M _ N => pFr l_177_178 M N) (fun _ M _ N => pFr l_177_178 M N) (fun _ _ M _ N => pFr l_177_178 M N) (fun _ _ _ M _ N => pFr l_177_178 M N) :=
  ⟨fun p1 M => show pTf l_177_178 M (S_177_e _ _ _ _ _ p1 M) from (tf_jump pFr_refl),
    fun p1 x2 x3 x4 M => show pTf l_177_178 M (S_177_1 _ _ _ _ _ p1 x2 x3 x4 M) from (tf_if (tf_ret pFr_refl) (tf_callE pFr_refl (fun _ M1 f1 => (tf_if (tf_if (tf_if (tf_put f1 0 rfl fun M2 f2 => (tf_jump f2)) (tf_if (tf_if (tf_put f1 0 rfl fun M2 f2 => (tf_jump f2)) (tf_ret f1)) (tf_call f1 (fun _ _ h => F_155 (show pK 2 7 = true by decide +kernel) h) [1, 2] rfl fun _ M2 f2 => (tf_if (tf_put f2 0 rfl fun M3 f3 => (tf_jump f3)) (tf_ret f2))))) (tf_call f1 (fun _ _ h => F_155 (show pK 2 7 = true by decide +kernel) h) [1, 2] rfl fun _ M2 f2 => (tf_if (tf_put f2 0 rfl fun M3 f3 => (tf_jump f3)) (tf_if (tf_if (tf_put f2 0 rfl fun M3 f3 => (tf_jump f3)) (tf_ret f2)) (tf_call f2 (fun _ _ h => F_155 (show pK 2 7 = true by decide +kernel) h) [1, 2] rfl fun _ M3 f3 => (tf_if (tf_put f3 0 rfl fun M4 f4 => (tf_jump f4)) (tf_ret f3))))))) (tf_ret f1))) (fun _ _ h => h))),
    fun p1 M => show pTf l_177_178 M (S_178_e _ _ _ _ _ p1 M) from (tf_jump pFr_refl),
    fun p1 x2 M => show pTf l_177_178 M (S_178_1 _ _ _ _ _ p1 x2 M) from (tf_if (tf_if (tf_if (tf_jump pFr_refl) (tf_if (tf_jump pFr_refl) (tf_call pFr_refl (fun _ _ h => F_173 h) [3, 4] rfl fun _ M1 f1 => (tf_ret f1)))) (tf_if (tf_jump pFr_refl) (tf_call pFr_refl (fun _ _ h => F_173 h) [3, 4] rfl fun _ M1 f1 => (tf_ret f1)))) (tf_if (tf_if (tf_if (tf_jump pFr_refl) (tf_if (tf_jump pFr_refl) (tf_call pFr_refl (fun _ _ h => F_173 h) [3, 4] rfl fun _ M1 f1 => (tf_ret f1)))) (tf_if (tf_jump pFr_refl) (tf_call pFr_refl (fun _ _ h => F_173 h) [3, 4] rfl fun _ M1 f1 => (tf_ret f1)))) (tf_put pFr_refl 0 rfl fun M1 f1 => (tf_jump f1)))),
    fun p1 x2 x3 M => show pTf l_177_178 M (S_178_11 _ _ _ _ _ p1 x2 x3 M) from (tf_if (tf_call pFr_refl (fun _ _ h => F_179 h) [3, 4, 1, 2, 0] rfl fun _ M1 f1 => (tf_if (tf_call f1 (fun _ _ h => F_155 (show pK 2 7 = true by decide +kernel) h) [1, 2] rfl fun _ M2 f2 => (tf_gd fun g3 => (tf_if (tf_ret f2) (tf_call f2 (fun _ _ h => F_155 (show pK 2 7 = true by decide +kernel) h) [1, 2] rfl fun _ M3 f3 => (tf_ret f3))))) (tf_call f1 (fun _ _ h => F_176 h) [3, 4, 0] rfl fun _ M2 f2 => (tf_if (tf_call f2 (fun _ _ h => F_155 (show pK 2 7 = true by decide +kernel) h) [1, 2] rfl fun _ M3 f3 => (tf_gd fun g4 => (tf_if (tf_ret f3) (tf_call f3 (fun _ _ h => F_155 (show pK 2 7 = true by decide +kernel) h) [1, 2] rfl fun _ M4 f4 => (tf_ret f4))))) (tf_call f2 (fun _ _ h => F_179 h) [3, 4, 1, 2, 0] rfl fun _ M3 f3 => (tf_if (tf_call f3 (fun _ _ h => F_155 (show pK 2 7 = true by decide +kernel) h) [1, 2] rfl fun _ M4 f4 => (tf_gd fun g5 => (tf_if (tf_ret f4) (tf_call f4 (fun _ _ h => F_155 (show pK 2 7 = true by decide +kernel) h) [1, 2] rfl fun _ M5 f5 => (tf_ret f5))))) (tf_call f3 (fun _ _ h => F_155 (show pK 2 7 = true by decide +kernel) h) [1, 2] rfl fun _ M4 f4 => (tf_gd fun g5 => (tf_if (tf_ret f4) (tf_call f4 (fun _ _ h => F_155 (show pK 2 7 = true by decide +kernel) h) [1, 2] rfl fun _ M5 f5 => (tf_ret f5))))))))))) (tf_put pFr_refl 0 rfl fun M1 f1 => (tf_callE f1 (fun _ M2 f2 => (tf_if (tf_gd fun g3 => (tf_if (tf_ret f2) (tf_call f2 (fun _ _ h => F_155 (show pK 2 7 = true by decide +kernel) h) [1, 2] rfl fun _ M3 f3 => (tf_ret f3)))) (tf_call f2 (fun _ _ h => F_176 h) [3, 4, 0] rfl fun _ M3 f3 => (tf_if (tf_gd fun g4 => (tf_if (tf_ret f3) (tf_call f3 (fun _ _ h => F_155 (show pK 2 7 = true by decide +kernel) h) [1, 2] rfl fun _ M4 f4 => (tf_ret f4)))) (tf_gd fun g4 => (tf_if (tf_ret f3) (tf_call f3 (fun _ _ h => F_155 (show pK 2 7 = true by decide +kernel) h) [1, 2] rfl fun _ M4 f4 => (tf_ret f4)))))))) (fun _ _ h => h))))⟩
theorem F_177 {p1 : Int32} {M : pMem} {v : Int32} {N : pMem} (h : D_177 p1 M v N) : pFr l_177_178 M N := h (fun _ M _ N => pFr l_177_178 M N, fun _ _ _ _ M _ N => pFr l_177_178 M N, fun _ M _ N => pFr l_177_178 M N, fun _ _ M _ N => pFr l_177_178 M N, fun _ _ _ M _ N => pFr l_177_178 M N) FC_177_178
theorem F_178 {p1 : Int32} {M : pMem} {v : Int32} {N : pMem} (h : D_178 p1 M v N) : pFr l_177_178 M N := h (fun _ M _ N => pFr l_177_178 M N, fun _ _ _ _ M _ N => pFr l_177_178 M N, fun _ M _ N => pFr l_177_178 M N, fun _ _ M _ N => pFr l_177_178 M N, fun _ _ _ M _ N => pFr l_177_178 M N) FC_177_178
/-- TwoCamps$Reader.readLawLine(I)Z -/
def D_175 (p1 : Int32) (M : pMem) : pT Int32 := tIf ((f_171 M) < (kI 14)) (tCall (D_173 (kI 1) M) fun v1 M1 => tRet v1 M1) (tIf ((f_171 M) ≤ (kI 19)) (tIf (p1 < (kI 16)) (tPut (aPut M 6 3 ((M 6 3) + (kI 1))) fun M1 => tCall (D_179 M1) fun v1 M2 => tIf (¬ v1 = 0) (tIf (¬ (f_171 M2) = (kI 20)) (tCall (D_156 7 (f_171 M) (M1 7 1) (M2 7 1) M2) fun _ M3 => tCall (D_176 (kI 59) (kI 59) M3) fun v3 M4 => tRet v3 M4) (tPut (aPut M2 6 3 ((M2 6 3) + (kI 1))) fun M3 => tCall (D_177 (kI 0) M3) fun v2 M4 => tIf (¬ v2 = 0) (tCall (D_156 7 (f_171 M) (M1 7 1) (M2 7 1) M4) fun _ M5 => tCall (D_176 (kI 59) (kI 59) M5) fun v4 M6 => tRet v4 M6) (tRet (kI 0) M4))) (tRet (kI 0) M2)) (tCall (D_173 (kI 3) M) fun v1 M1 => tRet v1 M1)) (tCall (D_173 (kI 1) M) fun v1 M1 => tRet v1 M1))
theorem D_175_ok {X : aX} {F d : Nat} {K : Nat → aK} (hS : pS K) {p1 : Int32} {M : pMem} {out : Option Value × aH} (H : aM X F d 175 [.ref 6, .int p1] (pH K M) = some out) : pG eI K out (D_175 p1 M) := by
  obtain ⟨d', g0, _, H⟩ := pEnt (n := 5) (ls := [.ref 6, .int p1, aD, aD, aD]) (mcb_175 rfl) (by decide +kernel) rfl H
  unfold D_175
  replace H := pRun (ls' := [.ref 6, .int p1, aD, aD, aD]) (st' := [.ref 6]) 1 rfl H
  obtain ⟨rv, h1, hc, H⟩ := pCalV 171 0 6 (as := []) (rest := []) rfl (by decide) (by decide +kernel) rfl rfl H
  replace H := pUseF (f_171_ok hS hc) H
  replace H := pRun (ls' := [.ref 6, .int p1, .int (f_171 M), aD, aD]) (st' := [.int (kI 14), .int (f_171 M)]) 3 rfl H
  rcases pIfc (n1 := 2) rfl (mcb_175 rfl) (mcb_175 rfl) H with ⟨g1, g0, _, H⟩ | ⟨g1, g0, _, H⟩
  · refine pG_pos (c := (f_171 M) < (kI 14)) g1 ?_
    replace H := pRun (ls' := [.ref 6, .int p1, .int (f_171 M), aD, aD]) (st' := [.int (kI 1), .ref 6]) 2 rfl H
    obtain ⟨rv, h1, hc, H⟩ := pCalV 173 1 6 (as := [.int (kI 1)]) (rest := []) rfl (by decide) (by decide +kernel) rfl rfl H
    obtain ⟨v1, M1, hD, H⟩ := pUseI (D_173_ok hS hc) H
    refine pG_call (x := v1) (M1 := M1) hD ?_
    exact pG_ret (pRetI H)
  · refine pG_neg (c := (f_171 M) < (kI 14)) g1 ?_
    replace H := pRun (ls' := [.ref 6, .int p1, .int (f_171 M), aD, aD]) (st' := [.int (kI 19), .int (f_171 M)]) 2 rfl H
    rcases pIfc (n1 := 3) rfl (mcb_175 rfl) (mcb_175 rfl) H with ⟨g2, g0, _, H⟩ | ⟨g2, g0, _, H⟩
    · refine pG_pos (c := (f_171 M) ≤ (kI 19)) g2 ?_
      replace H := pRun (ls' := [.ref 6, .int p1, .int (f_171 M), aD, aD]) (st' := [.int (kI 16), .int p1]) 2 rfl H
      rcases pIfc (n1 := 5) rfl (mcb_175 rfl) (mcb_175 rfl) H with ⟨g3, g0, _, H⟩ | ⟨g3, g0, _, H⟩
      · refine pG_pos (c := p1 < (kI 16)) g3 ?_
        replace H := pRun (ls' := [.ref 6, .int p1, .int (f_171 M), aD, aD]) (st' := [.ref 6, .ref 6]) 2 rfl H
        replace H := pGetN (v := M 6 3) rfl (by decide) H
        replace H := pRun (ls' := [.ref 6, .int p1, .int (f_171 M), aD, aD]) (st' := [.int ((M 6 3) + (kI 1)), .ref 6]) 2 rfl H
        obtain ⟨M1, eM1, H⟩ := pPutN (j := 3) rfl H
        refine pG_put (M2 := M1) eM1 ?_
        replace H := pRun (ls' := [.ref 6, .int p1, .int (f_171 M), aD, aD]) (st' := [.ref 6]) 1 rfl H
        replace H := pGetR (r := 7) (pRf hS (by decide +kernel)) rfl H
        replace H := pGetN (v := M1 7 1) rfl (by decide) H
        replace H := pRun (ls' := [.ref 6, .int p1, .int (f_171 M), .int (M1 7 1), aD]) (st' := [.ref 6]) 2 rfl H
        obtain ⟨rv, h1, hc, H⟩ := pCalV 179 0 6 (as := []) (rest := []) rfl (by decide) (by decide +kernel) rfl rfl H
        obtain ⟨v1, M2, hD, H⟩ := pUseI (D_179_ok hS hc) H
        refine pG_call (x := v1) (M1 := M2) hD ?_
        rcases pIf0 (n1 := 7) rfl (mcb_175 rfl) (mcb_175 rfl) H with ⟨g4, g0, _, H⟩ | ⟨g4, g0, _, H⟩
        · refine pG_pos (c := ¬ v1 = 0) g4 ?_
          replace H := pRun (ls' := [.ref 6, .int p1, .int (f_171 M), .int (M1 7 1), aD]) (st' := [.ref 6]) 1 rfl H
          replace H := pGetR (r := 7) (pRf hS (by decide +kernel)) rfl H
          replace H := pGetN (v := M2 7 1) rfl (by decide) H
          replace H := pRun (ls' := [.ref 6, .int p1, .int (f_171 M), .int (M1 7 1), .int (M2 7 1)]) (st' := [.ref 6]) 2 rfl H
          obtain ⟨rv, h1, hc, H⟩ := pCalV 171 0 6 (as := []) (rest := []) rfl (by decide) (by decide +kernel) rfl rfl H
          replace H := pUseF (f_171_ok hS hc) H
          replace H := pRun (ls' := [.ref 6, .int p1, .int (f_171 M), .int (M1 7 1), .int (M2 7 1)]) (st' := [.int (kI 20), .int (f_171 M2)]) 1 rfl H
          rcases pIfc (n1 := 10) rfl (mcb_175 rfl) (mcb_175 rfl) H with ⟨g5, g0, _, H⟩ | ⟨g5, g0, _, H⟩
          · refine pG_pos (c := ¬ (f_171 M2) = (kI 20)) g5 ?_
            replace H := pRun (ls' := [.ref 6, .int p1, .int (f_171 M), .int (M1 7 1), .int (M2 7 1)]) (st' := [.ref 6]) 1 rfl H
            replace H := pGetR (r := 7) (pRf hS (by decide +kernel)) rfl H
            replace H := pRun (ls' := [.ref 6, .int p1, .int (f_171 M), .int (M1 7 1), .int (M2 7 1)]) (st' := [.int (M2 7 1), .int (M1 7 1), .int (f_171 M), .ref 7]) 3 rfl H
            obtain ⟨rv, h1, hc, H⟩ := pCalV 156 3 7 (as := [.int (f_171 M), .int (M1 7 1), .int (M2 7 1)]) (rest := []) rfl (by decide) (by decide +kernel) rfl rfl H
            obtain ⟨v2, M3, hD, H⟩ := pUseU (D_156_ok hS (show pK 2 7 = true by decide +kernel) hc) H
            refine pG_call (x := v2) (M1 := M3) hD ?_
            replace H := pRun (ls' := [.ref 6, .int p1, .int (f_171 M), .int (M1 7 1), .int (M2 7 1)]) (st' := [.int (kI 59), .int (kI 59), .ref 6]) 3 rfl H
            obtain ⟨rv, h1, hc, H⟩ := pCalV 176 2 6 (as := [.int (kI 59), .int (kI 59)]) (rest := []) rfl (by decide) (by decide +kernel) rfl rfl H
            obtain ⟨v3, M4, hD, H⟩ := pUseI (D_176_ok hS hc) H
            refine pG_call (x := v3) (M1 := M4) hD ?_
            exact pG_ret (pRetI H)
          · refine pG_neg (c := ¬ (f_171 M2) = (kI 20)) g5 ?_
            replace H := pRun (ls' := [.ref 6, .int p1, .int (f_171 M), .int (M1 7 1), .int (M2 7 1)]) (st' := [.ref 6, .ref 6]) 2 rfl H
            replace H := pGetN (v := M2 6 3) rfl (by decide) H
            replace H := pRun (ls' := [.ref 6, .int p1, .int (f_171 M), .int (M1 7 1), .int (M2 7 1)]) (st' := [.int ((M2 6 3) + (kI 1)), .ref 6]) 2 rfl H
            obtain ⟨M3, eM3, H⟩ := pPutN (j := 3) rfl H
            refine pG_put (M2 := M3) eM3 ?_
            replace H := pRun (ls' := [.ref 6, .int p1, .int (f_171 M), .int (M1 7 1), .int (M2 7 1)]) (st' := [.int (kI 0), .ref 6]) 2 rfl H
            obtain ⟨rv, h1, hc, H⟩ := pCalV 177 1 6 (as := [.int (kI 0)]) (rest := []) rfl (by decide) (by decide +kernel) rfl rfl H
            obtain ⟨v2, M4, hD, H⟩ := pUseI (D_177_ok hS hc) H
            refine pG_call (x := v2) (M1 := M4) hD ?_
            rcases pIf0 (n1 := 10) rfl (mcb_175 rfl) (mcb_175 rfl) H with ⟨g6, g0, _, H⟩ | ⟨g6, g0, _, H⟩
            · refine pG_pos (c := ¬ v2 = 0) g6 ?_
              replace H := pRun (ls' := [.ref 6, .int p1, .int (f_171 M), .int (M1 7 1), .int (M2 7 1)]) (st' := [.ref 6]) 1 rfl H
              replace H := pGetR (r := 7) (pRf hS (by decide +kernel)) rfl H
              replace H := pRun (ls' := [.ref 6, .int p1, .int (f_171 M), .int (M1 7 1), .int (M2 7 1)]) (st' := [.int (M2 7 1), .int (M1 7 1), .int (f_171 M), .ref 7]) 3 rfl H
              obtain ⟨rv, h1, hc, H⟩ := pCalV 156 3 7 (as := [.int (f_171 M), .int (M1 7 1), .int (M2 7 1)]) (rest := []) rfl (by decide) (by decide +kernel) rfl rfl H
              obtain ⟨v3, M5, hD, H⟩ := pUseU (D_156_ok hS (show pK 2 7 = true by decide +kernel) hc) H
              refine pG_call (x := v3) (M1 := M5) hD ?_
              replace H := pRun (ls' := [.ref 6, .int p1, .int (f_171 M), .int (M1 7 1), .int (M2 7 1)]) (st' := [.int (kI 59), .int (kI 59), .ref 6]) 3 rfl H
              obtain ⟨rv, h1, hc, H⟩ := pCalV 176 2 6 (as := [.int (kI 59), .int (kI 59)]) (rest := []) rfl (by decide) (by decide +kernel) rfl rfl H
              obtain ⟨v4, M6, hD, H⟩ := pUseI (D_176_ok hS hc) H
              refine pG_call (x := v4) (M1 := M6) hD ?_
              exact pG_ret (pRetI H)
            · refine pG_neg (c := ¬ v2 = 0) g6 ?_
              replace H := pRun (ls' := [.ref 6, .int p1, .int (f_171 M), .int (M1 7 1), .int (M2 7 1)]) (st' := [.int (kI 0)]) 1 rfl H
              exact pG_ret (pRetI H)
        · refine pG_neg (c := ¬ v1 = 0) g4 ?_
          replace H := pRun (ls' := [.ref 6, .int p1, .int (f_171 M), .int (M1 7 1), aD]) (st' := [.int (kI 0)]) 1 rfl H
          exact pG_ret (pRetI H)
      · refine pG_neg (c := p1 < (kI 16)) g3 ?_
        replace H := pRun (ls' := [.ref 6, .int p1, .int (f_171 M), aD, aD]) (st' := [.int (kI 3), .ref 6]) 2 rfl H
        obtain ⟨rv, h1, hc, H⟩ := pCalV 173 1 6 (as := [.int (kI 3)]) (rest := []) rfl (by decide) (by decide +kernel) rfl rfl H
        obtain ⟨v1, M1, hD, H⟩ := pUseI (D_173_ok hS hc) H
        refine pG_call (x := v1) (M1 := M1) hD ?_
        exact pG_ret (pRetI H)
    · refine pG_neg (c := (f_171 M) ≤ (kI 19)) g2 ?_
      replace H := pRun (ls' := [.ref 6, .int p1, .int (f_171 M), aD, aD]) (st' := [.int (kI 1), .ref 6]) 2 rfl H
      obtain ⟨rv, h1, hc, H⟩ := pCalV 173 1 6 (as := [.int (kI 1)]) (rest := []) rfl (by decide) (by decide +kernel) rfl rfl H
      obtain ⟨v1, M1, hD, H⟩ := pUseI (D_173_ok hS hc) H
      refine pG_call (x := v1) (M1 := M1) hD ?_
      exact pG_ret (pRetI H)
def l_175 : List (Nat × Nat) := [(6, 4), (6, 5), (6, 3), (12, 999), (7, 1), (8, 999), (9, 999), (10, 999), (11, 999), (7, 0)]
theorem F_175 {p1 : Int32} {M : pMem} {v : Int32} {N : pMem} (h : D_175 p1 M v N) : pFr (l_175) M N :=
  (show pTf (l_175) M (D_175 p1 M) from (tf_if (tf_call pFr_refl (fun _ _ h => F_173 h) [0, 1] rfl fun _ M1 f1 => (tf_ret f1)) (tf_if (tf_if (tf_put pFr_refl 2 rfl fun M1 f1 => (tf_call f1 (fun _ _ h => F_179 h) [0, 1, 3, 4, 2] rfl fun _ M2 f2 => (tf_if (tf_if (tf_call f2 (fun _ _ h => F_156 (show pK 2 7 = true by decide +kernel) h) [5, 6, 7, 8, 9] rfl fun _ M3 f3 => (tf_call f3 (fun _ _ h => F_176 h) [0, 1, 2] rfl fun _ M4 f4 => (tf_ret f4))) (tf_put f2 2 rfl fun M3 f3 => (tf_call f3 (fun _ _ h => F_177 h) [2, 3, 4, 0, 1] rfl fun _ M4 f4 => (tf_if (tf_call f4 (fun _ _ h => F_156 (show pK 2 7 = true by decide +kernel) h) [5, 6, 7, 8, 9] rfl fun _ M5 f5 => (tf_call f5 (fun _ _ h => F_176 h) [0, 1, 2] rfl fun _ M6 f6 => (tf_ret f6))) (tf_ret f4))))) (tf_ret f2)))) (tf_call pFr_refl (fun _ _ h => F_173 h) [0, 1] rfl fun _ M1 f1 => (tf_ret f1))) (tf_call pFr_refl (fun _ _ h => F_173 h) [0, 1] rfl fun _ M1 f1 => (tf_ret f1))))) v N h
/-- TwoCamps$Reader.readLaw(LTwoCamps$Law;)I -/
def S_174_1 (l : Nat) (P1 : Int32 → pMem → pT Int32) (x2 : Int32) (M : pMem) : pT Int32 := tIf ((kI 16) < x2) (tCall (D_153 l 7 M) fun _ M1 => tRet (M1 7 0) M1) (tIf ((f_171 M) = (kI 101)) (tCall (D_153 l 7 M) fun _ M1 => tRet (M1 7 0) M1) (tCall (D_175 x2 M) fun v1 M1 => tIf (¬ v1 = 0) (P1 (x2 + kI 1) M1) (tRet (kI (-1)) M1)))
def C_174 (l : Nat) (P1 : Int32 → pMem → pT Int32) : Prop := (∀ (x2 : Int32) M v N, S_174_1 l P1 x2 M v N → P1 x2 M v N)
def L_174_1 (l : Nat) (x2 : Int32) (M : pMem) : pT Int32 := fun v N => ∀ P : (Int32 → pMem → pT Int32), C_174 l P → P x2 M v N
def D_174 (l : Nat) (M : pMem) : pT Int32 := tCall (D_154 7 M) fun _ M1 => L_174_1 l (kI 0) M1
theorem K_174 {X : aX} {F d : Nat} {K : Nat → aK} (hS : pS K) {l : Nat} (hl : pK 2 l = true) {out : Option Value × aH} (P1 : Int32 → pMem → pT Int32) (hC : C_174 l P1) : ∀ f, (∀ (x2 : Int32) M, pm X F d 174 f 1 [.iload 2, .bipush 16, .if_icmp .gt 6] [.ref 6, .ref l, .int x2] [] (pH K M) out → pG eI K out (P1 x2 M)) := by
  intro f
  induction f using Nat.strongRecOn with
  | _ f ih =>
    intro x2 M H
    refine pG_mono (fun v N h => hC x2 M v N h) ?_
    unfold S_174_1
    replace H := pRun (ls' := [.ref 6, .ref l, .int x2]) (st' := [.int (kI 16), .int x2]) 2 rfl H
    rcases pIfc (n1 := 6) rfl (mcb_174 rfl) (mcb_174 rfl) H with ⟨g1, g0, _, H⟩ | ⟨g1, g0, _, H⟩
    · refine pG_pos (c := (kI 16) < x2) g1 ?_
      replace H := pRun (ls' := [.ref 6, .ref l, .int x2]) (st' := [.ref 6, .ref l]) 2 rfl H
      replace H := pGetR (r := 7) (pRf hS (by decide +kernel)) rfl H
      obtain ⟨rv, h1, hc, H⟩ := pCalV 153 1 l (as := [.ref 7]) (rest := []) rfl (by decide) (by decide +kernel) rfl rfl H
      obtain ⟨v1, M1, hD, H⟩ := pUseU (D_153_ok hS hl (show pK 2 7 = true by decide +kernel) hc) H
      refine pG_call (x := v1) (M1 := M1) hD ?_
      replace H := pRun (ls' := [.ref 6, .ref l, .int x2]) (st' := [.ref 6]) 1 rfl H
      replace H := pGetR (r := 7) (pRf hS (by decide +kernel)) rfl H
      replace H := pGetN (v := M1 7 0) rfl (by decide) H
      exact pG_ret (pRetI H)
    · refine pG_neg (c := (kI 16) < x2) g1 ?_
      replace H := pRun (ls' := [.ref 6, .ref l, .int x2]) (st' := [.ref 6]) 1 rfl H
      obtain ⟨rv, h1, hc, H⟩ := pCalV 171 0 6 (as := []) (rest := []) rfl (by decide) (by decide +kernel) rfl rfl H
      replace H := pUseF (f_171_ok hS hc) H
      replace H := pRun (ls' := [.ref 6, .ref l, .int x2]) (st' := [.int (kI 101), .int (f_171 M)]) 1 rfl H
      rcases pIfc (n1 := 6) rfl (mcb_174 rfl) (mcb_174 rfl) H with ⟨g2, g0, _, H⟩ | ⟨g2, g0, _, H⟩
      · refine pG_pos (c := (f_171 M) = (kI 101)) g2 ?_
        replace H := pRun (ls' := [.ref 6, .ref l, .int x2]) (st' := [.ref 6, .ref l]) 2 rfl H
        replace H := pGetR (r := 7) (pRf hS (by decide +kernel)) rfl H
        obtain ⟨rv, h1, hc, H⟩ := pCalV 153 1 l (as := [.ref 7]) (rest := []) rfl (by decide) (by decide +kernel) rfl rfl H
        obtain ⟨v1, M1, hD, H⟩ := pUseU (D_153_ok hS hl (show pK 2 7 = true by decide +kernel) hc) H
        refine pG_call (x := v1) (M1 := M1) hD ?_
        replace H := pRun (ls' := [.ref 6, .ref l, .int x2]) (st' := [.ref 6]) 1 rfl H
        replace H := pGetR (r := 7) (pRf hS (by decide +kernel)) rfl H
        replace H := pGetN (v := M1 7 0) rfl (by decide) H
        exact pG_ret (pRetI H)
      · refine pG_neg (c := (f_171 M) = (kI 101)) g2 ?_
        replace H := pRun (ls' := [.ref 6, .ref l, .int x2]) (st' := [.int x2, .ref 6]) 2 rfl H
        obtain ⟨rv, h1, hc, H⟩ := pCalV 175 1 6 (as := [.int x2]) (rest := []) rfl (by decide) (by decide +kernel) rfl rfl H
        obtain ⟨v1, M1, hD, H⟩ := pUseI (D_175_ok hS hc) H
        refine pG_call (x := v1) (M1 := M1) hD ?_
        rcases pIf0 (n1 := 5) rfl (mcb_174 rfl) (mcb_174 rfl) H with ⟨g3, g0, _, H⟩ | ⟨g3, g0, _, H⟩
        · refine pG_pos (c := ¬ v1 = 0) g3 ?_
          replace H := pRun (ls' := [.ref 6, .ref l, .int (x2 + kI 1)]) (st' := []) 1 rfl H
          obtain ⟨g0, _, H⟩ := pGo (n1 := 1) rfl (mcb_174 rfl) H
          exact (ih _ (by omega)) _  _ H
        · refine pG_neg (c := ¬ v1 = 0) g3 ?_
          replace H := pRun (ls' := [.ref 6, .ref l, .int x2]) (st' := [.int (kI (-1))]) 1 rfl H
          exact pG_ret (pRetI H)
theorem L_174_1_ok {X : aX} {F d : Nat} {K : Nat → aK} (hS : pS K) {l : Nat} (hl : pK 2 l = true) {out : Option Value × aH} {f : Nat} {x2 : Int32} {M : pMem} (H : pm X F d 174 f 1 [.iload 2, .bipush 16, .if_icmp .gt 6] [.ref 6, .ref l, .int x2] [] (pH K M) out) : pG eI K out (L_174_1 l x2 M) := by
  refine pG_all (C := fun P : (Int32 → pMem → pT Int32) => C_174 l P) (T := fun P => P x2 M) eI_inj (fun _ _ _ _ => True) ?_ (fun P hP => (K_174 hS hl P hP f) _ _ H)
  exact (fun _ _ _ _ _ => trivial)
theorem D_174_ok {X : aX} {F d : Nat} {K : Nat → aK} (hS : pS K) {l : Nat} (hl : pK 2 l = true) {M : pMem} {out : Option Value × aH} (H : aM X F d 174 [.ref 6, .ref l] (pH K M) = some out) : pG eI K out (D_174 l M) := by
  obtain ⟨d', g0, _, H⟩ := pEnt (n := 3) (ls := [.ref 6, .ref l, aD]) (mcb_174 rfl) (by decide +kernel) rfl H
  unfold D_174
  replace H := pRun (ls' := [.ref 6, .ref l, aD]) (st' := [.ref 6]) 1 rfl H
  replace H := pGetR (r := 7) (pRf hS (by decide +kernel)) rfl H
  obtain ⟨rv, h1, hc, H⟩ := pCalV 154 0 7 (as := []) (rest := []) rfl (by decide) (by decide +kernel) rfl rfl H
  obtain ⟨v1, M1, hD, H⟩ := pUseU (D_154_ok hS (show pK 2 7 = true by decide +kernel) hc) H
  refine pG_call (x := v1) (M1 := M1) hD ?_
  replace H := pRun (ls' := [.ref 6, .ref l, .int (kI 0)]) (st' := []) 2 rfl H
  obtain ⟨g0, _, H⟩ := pFall (mcb_174 rfl) H
  exact L_174_1_ok hS hl  H
def l_174 (l : Nat) : List (Nat × Nat) := [(7, 0), (7, 1), (l, 0), (l, 1), (l + 1, 999), (l + 2, 999), (l + 3, 999), (l + 4, 999), (l + 5, 999), (6, 4), (6, 5), (6, 3), (12, 999), (8, 999), (9, 999), (10, 999), (11, 999)]
theorem FC_174 {l : Nat} (hl : pK 2 l = true) : C_174 l (fun _ M _ N => pFr (l_174 l) M N) := fun x2 M => show pTf (l_174 l) M (S_174_1 l _ x2 M) from (tf_if (tf_call pFr_refl (fun _ _ h => F_153 hl (show pK 2 7 = true by decide +kernel) h) [2, 3, 4, 5, 6, 7, 8] rfl fun _ M1 f1 => (tf_ret f1)) (tf_if (tf_call pFr_refl (fun _ _ h => F_153 hl (show pK 2 7 = true by decide +kernel) h) [2, 3, 4, 5, 6, 7, 8] rfl fun _ M1 f1 => (tf_ret f1)) (tf_call pFr_refl (fun _ _ h => F_175 h) [9, 10, 11, 12, 1, 13, 14, 15, 16, 0] rfl fun _ M1 f1 => (tf_if (tf_jump f1) (tf_ret f1)))))
theorem F_174 {l : Nat} (hl : pK 2 l = true) {M : pMem} {v : Int32} {N : pMem} (h : D_174 l M v N) : pFr (l_174 l) M N :=
  (show pTf (l_174 l) M (D_174 l M) from (tf_call pFr_refl (fun _ _ h => F_154 (show pK 2 7 = true by decide +kernel) h) [0, 1] rfl fun _ M1 f1 => (tf_jumpL (fun _ M _ N => pFr (l_174 l) M N) (FC_174 hl) rfl f1))) v N h
/-- TwoCamps$Reader.readNumber(I)Z -/
def D_183 (p1 : Int32) (M : pMem) : pT Int32 := tIf ((f_171 M) = (kI 100)) (tIf ((f_172 M) ≤ p1) (tPut (aPut M 6 3 ((M 6 3) + (kI 1))) fun M1 => tRet (kI 1) M1) (tCall (D_173 (kI 2) M) fun v1 M1 => tRet v1 M1)) (tCall (D_173 (kI 1) M) fun v1 M1 => tRet v1 M1)
theorem D_183_ok {X : aX} {F d : Nat} {K : Nat → aK} (hS : pS K) {p1 : Int32} {M : pMem} {out : Option Value × aH} (H : aM X F d 183 [.ref 6, .int p1] (pH K M) = some out) : pG eI K out (D_183 p1 M) := by
  obtain ⟨d', g0, _, H⟩ := pEnt (n := 2) (ls := [.ref 6, .int p1]) (mcb_183 rfl) (by decide +kernel) rfl H
  unfold D_183
  replace H := pRun (ls' := [.ref 6, .int p1]) (st' := [.ref 6]) 1 rfl H
  obtain ⟨rv, h1, hc, H⟩ := pCalV 171 0 6 (as := []) (rest := []) rfl (by decide) (by decide +kernel) rfl rfl H
  replace H := pUseF (f_171_ok hS hc) H
  replace H := pRun (ls' := [.ref 6, .int p1]) (st' := [.int (kI 100), .int (f_171 M)]) 1 rfl H
  rcases pIfc (n1 := 2) rfl (mcb_183 rfl) (mcb_183 rfl) H with ⟨g1, g0, _, H⟩ | ⟨g1, g0, _, H⟩
  · refine pG_pos (c := (f_171 M) = (kI 100)) g1 ?_
    replace H := pRun (ls' := [.ref 6, .int p1]) (st' := [.ref 6]) 1 rfl H
    obtain ⟨rv, h1, hc, H⟩ := pCalV 172 0 6 (as := []) (rest := []) rfl (by decide) (by decide +kernel) rfl rfl H
    replace H := pUseF (f_172_ok hS hc) H
    replace H := pRun (ls' := [.ref 6, .int p1]) (st' := [.int p1, .int (f_172 M)]) 1 rfl H
    rcases pIfc (n1 := 4) rfl (mcb_183 rfl) (mcb_183 rfl) H with ⟨g2, g0, _, H⟩ | ⟨g2, g0, _, H⟩
    · refine pG_pos (c := (f_172 M) ≤ p1) g2 ?_
      replace H := pRun (ls' := [.ref 6, .int p1]) (st' := [.ref 6, .ref 6]) 2 rfl H
      replace H := pGetN (v := M 6 3) rfl (by decide) H
      replace H := pRun (ls' := [.ref 6, .int p1]) (st' := [.int ((M 6 3) + (kI 1)), .ref 6]) 2 rfl H
      obtain ⟨M1, eM1, H⟩ := pPutN (j := 3) rfl H
      refine pG_put (M2 := M1) eM1 ?_
      replace H := pRun (ls' := [.ref 6, .int p1]) (st' := [.int (kI 1)]) 1 rfl H
      exact pG_ret (pRetI H)
    · refine pG_neg (c := (f_172 M) ≤ p1) g2 ?_
      replace H := pRun (ls' := [.ref 6, .int p1]) (st' := [.int (kI 2), .ref 6]) 2 rfl H
      obtain ⟨rv, h1, hc, H⟩ := pCalV 173 1 6 (as := [.int (kI 2)]) (rest := []) rfl (by decide) (by decide +kernel) rfl rfl H
      obtain ⟨v1, M1, hD, H⟩ := pUseI (D_173_ok hS hc) H
      refine pG_call (x := v1) (M1 := M1) hD ?_
      exact pG_ret (pRetI H)
  · refine pG_neg (c := (f_171 M) = (kI 100)) g1 ?_
    replace H := pRun (ls' := [.ref 6, .int p1]) (st' := [.int (kI 1), .ref 6]) 2 rfl H
    obtain ⟨rv, h1, hc, H⟩ := pCalV 173 1 6 (as := [.int (kI 1)]) (rest := []) rfl (by decide) (by decide +kernel) rfl rfl H
    obtain ⟨v1, M1, hD, H⟩ := pUseI (D_173_ok hS hc) H
    refine pG_call (x := v1) (M1 := M1) hD ?_
    exact pG_ret (pRetI H)
def l_183 : List (Nat × Nat) := [(6, 3), (6, 4), (6, 5)]
theorem F_183 {p1 : Int32} {M : pMem} {v : Int32} {N : pMem} (h : D_183 p1 M v N) : pFr (l_183) M N :=
  (show pTf (l_183) M (D_183 p1 M) from (tf_if (tf_if (tf_put pFr_refl 0 rfl fun M1 f1 => (tf_ret f1)) (tf_call pFr_refl (fun _ _ h => F_173 h) [1, 2] rfl fun _ M1 f1 => (tf_ret f1))) (tf_call pFr_refl (fun _ _ h => F_173 h) [1, 2] rfl fun _ M1 f1 => (tf_ret f1)))) v N h
/-- TwoCamps$Reader.readPlanLine(I)Z -/
def D_182 (p1 : Int32) (M : pMem) : pT Int32 := tIf ((f_171 M) < (kI 24)) (tCall (D_173 (kI 1) M) fun v1 M1 => tRet v1 M1) (tIf ((f_171 M) ≤ (kI 28)) (tIf (p1 < (kI 24)) (tPut (aPut M 6 3 ((M 6 3) + (kI 1))) fun M1 => tIf ((f_171 M) = (kI 25)) (tIf (¬ (f_171 M) = (kI 28)) (tCall (D_183 (kI 9) M1) fun v1 M2 => tIf (¬ v1 = 0) (tIf (¬ (f_171 M) = (kI 28)) (tCall (D_163 14 ((f_171 M) - (kI 24)) (f_172 M1) M2) fun _ M3 => tCall (D_176 (kI 59) (kI 59) M3) fun v3 M4 => tRet v3 M4) (tPut (aPut M2 14 1 (f_172 M1)) fun M3 => tCall (D_176 (kI 59) (kI 59) M3) fun v2 M4 => tRet v2 M4)) (tRet (kI 0) M2)) (tCall (D_183 (kI 1) M1) fun v1 M2 => tIf (¬ v1 = 0) (tIf (¬ (f_171 M) = (kI 28)) (tCall (D_163 14 ((f_171 M) - (kI 24)) (f_172 M1) M2) fun _ M3 => tCall (D_176 (kI 59) (kI 59) M3) fun v3 M4 => tRet v3 M4) (tPut (aPut M2 14 1 (f_172 M1)) fun M3 => tCall (D_176 (kI 59) (kI 59) M3) fun v2 M4 => tRet v2 M4)) (tRet (kI 0) M2))) (tIf (¬ (f_171 M) = (kI 28)) (tIf (¬ (f_171 M) = (kI 28)) (tCall (D_163 14 ((f_171 M) - (kI 24)) (kI 0) M1) fun _ M2 => tCall (D_176 (kI 59) (kI 59) M2) fun v2 M3 => tRet v2 M3) (tPut (aPut M1 14 1 (kI 0)) fun M2 => tCall (D_176 (kI 59) (kI 59) M2) fun v1 M3 => tRet v1 M3)) (tIf (¬ (f_171 M) = (kI 28)) (tCall (D_183 (kI 9) M1) fun v1 M2 => tIf (¬ v1 = 0) (tIf (¬ (f_171 M) = (kI 28)) (tCall (D_163 14 ((f_171 M) - (kI 24)) (f_172 M1) M2) fun _ M3 => tCall (D_176 (kI 59) (kI 59) M3) fun v3 M4 => tRet v3 M4) (tPut (aPut M2 14 1 (f_172 M1)) fun M3 => tCall (D_176 (kI 59) (kI 59) M3) fun v2 M4 => tRet v2 M4)) (tRet (kI 0) M2)) (tCall (D_183 (kI 1) M1) fun v1 M2 => tIf (¬ v1 = 0) (tIf (¬ (f_171 M) = (kI 28)) (tCall (D_163 14 ((f_171 M) - (kI 24)) (f_172 M1) M2) fun _ M3 => tCall (D_176 (kI 59) (kI 59) M3) fun v3 M4 => tRet v3 M4) (tPut (aPut M2 14 1 (f_172 M1)) fun M3 => tCall (D_176 (kI 59) (kI 59) M3) fun v2 M4 => tRet v2 M4)) (tRet (kI 0) M2))))) (tCall (D_173 (kI 3) M) fun v1 M1 => tRet v1 M1)) (tCall (D_173 (kI 1) M) fun v1 M1 => tRet v1 M1))
theorem D_182_ok {X : aX} {F d : Nat} {K : Nat → aK} (hS : pS K) {p1 : Int32} {M : pMem} {out : Option Value × aH} (H : aM X F d 182 [.ref 6, .int p1] (pH K M) = some out) : pG eI K out (D_182 p1 M) := by
  obtain ⟨d', g0, _, H⟩ := pEnt (n := 4) (ls := [.ref 6, .int p1, aD, aD]) (mcb_182 rfl) (by decide +kernel) rfl H
  unfold D_182
  replace H := pRun (ls' := [.ref 6, .int p1, aD, aD]) (st' := [.ref 6]) 1 rfl H
  obtain ⟨rv, h1, hc, H⟩ := pCalV 171 0 6 (as := []) (rest := []) rfl (by decide) (by decide +kernel) rfl rfl H
  replace H := pUseF (f_171_ok hS hc) H
  replace H := pRun (ls' := [.ref 6, .int p1, .int (f_171 M), aD]) (st' := [.int (kI 24), .int (f_171 M)]) 3 rfl H
  rcases pIfc (n1 := 2) rfl (mcb_182 rfl) (mcb_182 rfl) H with ⟨g1, g0, _, H⟩ | ⟨g1, g0, _, H⟩
  · refine pG_pos (c := (f_171 M) < (kI 24)) g1 ?_
    replace H := pRun (ls' := [.ref 6, .int p1, .int (f_171 M), aD]) (st' := [.int (kI 1), .ref 6]) 2 rfl H
    obtain ⟨rv, h1, hc, H⟩ := pCalV 173 1 6 (as := [.int (kI 1)]) (rest := []) rfl (by decide) (by decide +kernel) rfl rfl H
    obtain ⟨v1, M1, hD, H⟩ := pUseI (D_173_ok hS hc) H
    refine pG_call (x := v1) (M1 := M1) hD ?_
    exact pG_ret (pRetI H)
  · refine pG_neg (c := (f_171 M) < (kI 24)) g1 ?_
    replace H := pRun (ls' := [.ref 6, .int p1, .int (f_171 M), aD]) (st' := [.int (kI 28), .int (f_171 M)]) 2 rfl H
    rcases pIfc (n1 := 3) rfl (mcb_182 rfl) (mcb_182 rfl) H with ⟨g2, g0, _, H⟩ | ⟨g2, g0, _, H⟩
    · refine pG_pos (c := (f_171 M) ≤ (kI 28)) g2 ?_
      replace H := pRun (ls' := [.ref 6, .int p1, .int (f_171 M), aD]) (st' := [.int (kI 24), .int p1]) 2 rfl H
      rcases pIfc (n1 := 5) rfl (mcb_182 rfl) (mcb_182 rfl) H with ⟨g3, g0, _, H⟩ | ⟨g3, g0, _, H⟩
      · refine pG_pos (c := p1 < (kI 24)) g3 ?_
        replace H := pRun (ls' := [.ref 6, .int p1, .int (f_171 M), aD]) (st' := [.ref 6, .ref 6]) 2 rfl H
        replace H := pGetN (v := M 6 3) rfl (by decide) H
        replace H := pRun (ls' := [.ref 6, .int p1, .int (f_171 M), aD]) (st' := [.int ((M 6 3) + (kI 1)), .ref 6]) 2 rfl H
        obtain ⟨M1, eM1, H⟩ := pPutN (j := 3) rfl H
        refine pG_put (M2 := M1) eM1 ?_
        replace H := pRun (ls' := [.ref 6, .int p1, .int (f_171 M), .int (kI 0)]) (st' := [.int (kI 25), .int (f_171 M)]) 4 rfl H
        rcases pIfc (n1 := 7) rfl (mcb_182 rfl) (mcb_182 rfl) H with ⟨g4, g0, _, H⟩ | ⟨g4, g0, _, H⟩
        · refine pG_pos (c := (f_171 M) = (kI 25)) g4 ?_
          replace H := pRun (ls' := [.ref 6, .int p1, .int (f_171 M), .int (kI 0)]) (st' := [.ref 6]) 1 rfl H
          obtain ⟨rv, h1, hc, H⟩ := pCalV 172 0 6 (as := []) (rest := []) rfl (by decide) (by decide +kernel) rfl rfl H
          replace H := pUseF (f_172_ok hS hc) H
          replace H := pRun (ls' := [.ref 6, .int p1, .int (f_171 M), .int (f_172 M1)]) (st' := [.int (kI 28), .int (f_171 M), .ref 6]) 4 rfl H
          rcases pIfc (n1 := 9) rfl (mcb_182 rfl) (mcb_182 rfl) H with ⟨g5, g0, _, H⟩ | ⟨g5, g0, _, H⟩
          · refine pG_pos (c := ¬ (f_171 M) = (kI 28)) g5 ?_
            replace H := pRun (ls' := [.ref 6, .int p1, .int (f_171 M), .int (f_172 M1)]) (st' := [.int (kI 9), .ref 6]) 1 rfl H
            obtain ⟨g0, _, H⟩ := pFall (mcb_182 rfl) H
            obtain ⟨rv, h1, hc, H⟩ := pCalV 183 1 6 (as := [.int (kI 9)]) (rest := []) rfl (by decide) (by decide +kernel) rfl rfl H
            obtain ⟨v1, M2, hD, H⟩ := pUseI (D_183_ok hS hc) H
            refine pG_call (x := v1) (M1 := M2) hD ?_
            rcases pIf0 (n1 := 12) rfl (mcb_182 rfl) (mcb_182 rfl) H with ⟨g6, g0, _, H⟩ | ⟨g6, g0, _, H⟩
            · refine pG_pos (c := ¬ v1 = 0) g6 ?_
              replace H := pRun (ls' := [.ref 6, .int p1, .int (f_171 M), .int (f_172 M1)]) (st' := [.int (kI 28), .int (f_171 M)]) 2 rfl H
              rcases pIfc (n1 := 14) rfl (mcb_182 rfl) (mcb_182 rfl) H with ⟨g7, g0, _, H⟩ | ⟨g7, g0, _, H⟩
              · refine pG_pos (c := ¬ (f_171 M) = (kI 28)) g7 ?_
                replace H := pRun (ls' := [.ref 6, .int p1, .int (f_171 M), .int (f_172 M1)]) (st' := [.ref 6]) 1 rfl H
                replace H := pGetR (r := 14) (pRf hS (by decide +kernel)) rfl H
                replace H := pRun (ls' := [.ref 6, .int p1, .int (f_171 M), .int (f_172 M1)]) (st' := [.int (f_172 M1), .int ((f_171 M) - (kI 24)), .ref 14]) 4 rfl H
                obtain ⟨rv, h1, hc, H⟩ := pCalV 163 2 14 (as := [.int ((f_171 M) - (kI 24)), .int (f_172 M1)]) (rest := []) rfl (by decide) (by decide +kernel) rfl rfl H
                obtain ⟨v2, M3, hD, H⟩ := pUseU (D_163_ok hS (show pK 3 14 = true by decide +kernel) hc) H
                refine pG_call (x := v2) (M1 := M3) hD ?_
                obtain ⟨g0, _, H⟩ := pFall (mcb_182 rfl) H
                replace H := pRun (ls' := [.ref 6, .int p1, .int (f_171 M), .int (f_172 M1)]) (st' := [.int (kI 59), .int (kI 59), .ref 6]) 3 rfl H
                obtain ⟨rv, h1, hc, H⟩ := pCalV 176 2 6 (as := [.int (kI 59), .int (kI 59)]) (rest := []) rfl (by decide) (by decide +kernel) rfl rfl H
                obtain ⟨v3, M4, hD, H⟩ := pUseI (D_176_ok hS hc) H
                refine pG_call (x := v3) (M1 := M4) hD ?_
                exact pG_ret (pRetI H)
              · refine pG_neg (c := ¬ (f_171 M) = (kI 28)) g7 ?_
                replace H := pRun (ls' := [.ref 6, .int p1, .int (f_171 M), .int (f_172 M1)]) (st' := [.ref 6]) 1 rfl H
                replace H := pGetR (r := 14) (pRf hS (by decide +kernel)) rfl H
                replace H := pRun (ls' := [.ref 6, .int p1, .int (f_171 M), .int (f_172 M1)]) (st' := [.int (f_172 M1), .ref 14]) 1 rfl H
                obtain ⟨M3, eM3, H⟩ := pPutN (j := 1) rfl H
                refine pG_put (M2 := M3) eM3 ?_
                obtain ⟨g0, _, H⟩ := pGo (n1 := 15) rfl (mcb_182 rfl) H
                replace H := pRun (ls' := [.ref 6, .int p1, .int (f_171 M), .int (f_172 M1)]) (st' := [.int (kI 59), .int (kI 59), .ref 6]) 3 rfl H
                obtain ⟨rv, h1, hc, H⟩ := pCalV 176 2 6 (as := [.int (kI 59), .int (kI 59)]) (rest := []) rfl (by decide) (by decide +kernel) rfl rfl H
                obtain ⟨v2, M4, hD, H⟩ := pUseI (D_176_ok hS hc) H
                refine pG_call (x := v2) (M1 := M4) hD ?_
                exact pG_ret (pRetI H)
            · refine pG_neg (c := ¬ v1 = 0) g6 ?_
              replace H := pRun (ls' := [.ref 6, .int p1, .int (f_171 M), .int (f_172 M1)]) (st' := [.int (kI 0)]) 1 rfl H
              exact pG_ret (pRetI H)
          · refine pG_neg (c := ¬ (f_171 M) = (kI 28)) g5 ?_
            replace H := pRun (ls' := [.ref 6, .int p1, .int (f_171 M), .int (f_172 M1)]) (st' := [.int (kI 1), .ref 6]) 1 rfl H
            obtain ⟨g0, _, H⟩ := pGo (n1 := 10) rfl (mcb_182 rfl) H
            obtain ⟨rv, h1, hc, H⟩ := pCalV 183 1 6 (as := [.int (kI 1)]) (rest := []) rfl (by decide) (by decide +kernel) rfl rfl H
            obtain ⟨v1, M2, hD, H⟩ := pUseI (D_183_ok hS hc) H
            refine pG_call (x := v1) (M1 := M2) hD ?_
            rcases pIf0 (n1 := 12) rfl (mcb_182 rfl) (mcb_182 rfl) H with ⟨g6, g0, _, H⟩ | ⟨g6, g0, _, H⟩
            · refine pG_pos (c := ¬ v1 = 0) g6 ?_
              replace H := pRun (ls' := [.ref 6, .int p1, .int (f_171 M), .int (f_172 M1)]) (st' := [.int (kI 28), .int (f_171 M)]) 2 rfl H
              rcases pIfc (n1 := 14) rfl (mcb_182 rfl) (mcb_182 rfl) H with ⟨g7, g0, _, H⟩ | ⟨g7, g0, _, H⟩
              · refine pG_pos (c := ¬ (f_171 M) = (kI 28)) g7 ?_
                replace H := pRun (ls' := [.ref 6, .int p1, .int (f_171 M), .int (f_172 M1)]) (st' := [.ref 6]) 1 rfl H
                replace H := pGetR (r := 14) (pRf hS (by decide +kernel)) rfl H
                replace H := pRun (ls' := [.ref 6, .int p1, .int (f_171 M), .int (f_172 M1)]) (st' := [.int (f_172 M1), .int ((f_171 M) - (kI 24)), .ref 14]) 4 rfl H
                obtain ⟨rv, h1, hc, H⟩ := pCalV 163 2 14 (as := [.int ((f_171 M) - (kI 24)), .int (f_172 M1)]) (rest := []) rfl (by decide) (by decide +kernel) rfl rfl H
                obtain ⟨v2, M3, hD, H⟩ := pUseU (D_163_ok hS (show pK 3 14 = true by decide +kernel) hc) H
                refine pG_call (x := v2) (M1 := M3) hD ?_
                obtain ⟨g0, _, H⟩ := pFall (mcb_182 rfl) H
                replace H := pRun (ls' := [.ref 6, .int p1, .int (f_171 M), .int (f_172 M1)]) (st' := [.int (kI 59), .int (kI 59), .ref 6]) 3 rfl H
                obtain ⟨rv, h1, hc, H⟩ := pCalV 176 2 6 (as := [.int (kI 59), .int (kI 59)]) (rest := []) rfl (by decide) (by decide +kernel) rfl rfl H
                obtain ⟨v3, M4, hD, H⟩ := pUseI (D_176_ok hS hc) H
                refine pG_call (x := v3) (M1 := M4) hD ?_
                exact pG_ret (pRetI H)
              · refine pG_neg (c := ¬ (f_171 M) = (kI 28)) g7 ?_
                replace H := pRun (ls' := [.ref 6, .int p1, .int (f_171 M), .int (f_172 M1)]) (st' := [.ref 6]) 1 rfl H
                replace H := pGetR (r := 14) (pRf hS (by decide +kernel)) rfl H
                replace H := pRun (ls' := [.ref 6, .int p1, .int (f_171 M), .int (f_172 M1)]) (st' := [.int (f_172 M1), .ref 14]) 1 rfl H
                obtain ⟨M3, eM3, H⟩ := pPutN (j := 1) rfl H
                refine pG_put (M2 := M3) eM3 ?_
                obtain ⟨g0, _, H⟩ := pGo (n1 := 15) rfl (mcb_182 rfl) H
                replace H := pRun (ls' := [.ref 6, .int p1, .int (f_171 M), .int (f_172 M1)]) (st' := [.int (kI 59), .int (kI 59), .ref 6]) 3 rfl H
                obtain ⟨rv, h1, hc, H⟩ := pCalV 176 2 6 (as := [.int (kI 59), .int (kI 59)]) (rest := []) rfl (by decide) (by decide +kernel) rfl rfl H
                obtain ⟨v2, M4, hD, H⟩ := pUseI (D_176_ok hS hc) H
                refine pG_call (x := v2) (M1 := M4) hD ?_
                exact pG_ret (pRetI H)
            · refine pG_neg (c := ¬ v1 = 0) g6 ?_
              replace H := pRun (ls' := [.ref 6, .int p1, .int (f_171 M), .int (f_172 M1)]) (st' := [.int (kI 0)]) 1 rfl H
              exact pG_ret (pRetI H)
        · refine pG_neg (c := (f_171 M) = (kI 25)) g4 ?_
          replace H := pRun (ls' := [.ref 6, .int p1, .int (f_171 M), .int (kI 0)]) (st' := [.int (kI 28), .int (f_171 M)]) 2 rfl H
          rcases pIfc (n1 := 12) rfl (mcb_182 rfl) (mcb_182 rfl) H with ⟨g5, g0, _, H⟩ | ⟨g5, g0, _, H⟩
          · refine pG_pos (c := ¬ (f_171 M) = (kI 28)) g5 ?_
            replace H := pRun (ls' := [.ref 6, .int p1, .int (f_171 M), .int (kI 0)]) (st' := [.int (kI 28), .int (f_171 M)]) 2 rfl H
            rcases pIfc (n1 := 14) rfl (mcb_182 rfl) (mcb_182 rfl) H with ⟨g6, g0, _, H⟩ | ⟨g6, g0, _, H⟩
            · refine pG_pos (c := ¬ (f_171 M) = (kI 28)) g6 ?_
              replace H := pRun (ls' := [.ref 6, .int p1, .int (f_171 M), .int (kI 0)]) (st' := [.ref 6]) 1 rfl H
              replace H := pGetR (r := 14) (pRf hS (by decide +kernel)) rfl H
              replace H := pRun (ls' := [.ref 6, .int p1, .int (f_171 M), .int (kI 0)]) (st' := [.int (kI 0), .int ((f_171 M) - (kI 24)), .ref 14]) 4 rfl H
              obtain ⟨rv, h1, hc, H⟩ := pCalV 163 2 14 (as := [.int ((f_171 M) - (kI 24)), .int (kI 0)]) (rest := []) rfl (by decide) (by decide +kernel) rfl rfl H
              obtain ⟨v1, M2, hD, H⟩ := pUseU (D_163_ok hS (show pK 3 14 = true by decide +kernel) hc) H
              refine pG_call (x := v1) (M1 := M2) hD ?_
              obtain ⟨g0, _, H⟩ := pFall (mcb_182 rfl) H
              replace H := pRun (ls' := [.ref 6, .int p1, .int (f_171 M), .int (kI 0)]) (st' := [.int (kI 59), .int (kI 59), .ref 6]) 3 rfl H
              obtain ⟨rv, h1, hc, H⟩ := pCalV 176 2 6 (as := [.int (kI 59), .int (kI 59)]) (rest := []) rfl (by decide) (by decide +kernel) rfl rfl H
              obtain ⟨v2, M3, hD, H⟩ := pUseI (D_176_ok hS hc) H
              refine pG_call (x := v2) (M1 := M3) hD ?_
              exact pG_ret (pRetI H)
            · refine pG_neg (c := ¬ (f_171 M) = (kI 28)) g6 ?_
              replace H := pRun (ls' := [.ref 6, .int p1, .int (f_171 M), .int (kI 0)]) (st' := [.ref 6]) 1 rfl H
              replace H := pGetR (r := 14) (pRf hS (by decide +kernel)) rfl H
              replace H := pRun (ls' := [.ref 6, .int p1, .int (f_171 M), .int (kI 0)]) (st' := [.int (kI 0), .ref 14]) 1 rfl H
              obtain ⟨M2, eM2, H⟩ := pPutN (j := 1) rfl H
              refine pG_put (M2 := M2) eM2 ?_
              obtain ⟨g0, _, H⟩ := pGo (n1 := 15) rfl (mcb_182 rfl) H
              replace H := pRun (ls' := [.ref 6, .int p1, .int (f_171 M), .int (kI 0)]) (st' := [.int (kI 59), .int (kI 59), .ref 6]) 3 rfl H
              obtain ⟨rv, h1, hc, H⟩ := pCalV 176 2 6 (as := [.int (kI 59), .int (kI 59)]) (rest := []) rfl (by decide) (by decide +kernel) rfl rfl H
              obtain ⟨v1, M3, hD, H⟩ := pUseI (D_176_ok hS hc) H
              refine pG_call (x := v1) (M1 := M3) hD ?_
              exact pG_ret (pRetI H)
          · refine pG_neg (c := ¬ (f_171 M) = (kI 28)) g5 ?_
            replace H := pRun (ls' := [.ref 6, .int p1, .int (f_171 M), .int (kI 0)]) (st' := [.ref 6]) 1 rfl H
            obtain ⟨rv, h1, hc, H⟩ := pCalV 172 0 6 (as := []) (rest := []) rfl (by decide) (by decide +kernel) rfl rfl H
            replace H := pUseF (f_172_ok hS hc) H
            replace H := pRun (ls' := [.ref 6, .int p1, .int (f_171 M), .int (f_172 M1)]) (st' := [.int (kI 28), .int (f_171 M), .ref 6]) 4 rfl H
            rcases pIfc (n1 := 9) rfl (mcb_182 rfl) (mcb_182 rfl) H with ⟨g6, g0, _, H⟩ | ⟨g6, g0, _, H⟩
            · refine pG_pos (c := ¬ (f_171 M) = (kI 28)) g6 ?_
              replace H := pRun (ls' := [.ref 6, .int p1, .int (f_171 M), .int (f_172 M1)]) (st' := [.int (kI 9), .ref 6]) 1 rfl H
              obtain ⟨g0, _, H⟩ := pFall (mcb_182 rfl) H
              obtain ⟨rv, h1, hc, H⟩ := pCalV 183 1 6 (as := [.int (kI 9)]) (rest := []) rfl (by decide) (by decide +kernel) rfl rfl H
              obtain ⟨v1, M2, hD, H⟩ := pUseI (D_183_ok hS hc) H
              refine pG_call (x := v1) (M1 := M2) hD ?_
              rcases pIf0 (n1 := 12) rfl (mcb_182 rfl) (mcb_182 rfl) H with ⟨g7, g0, _, H⟩ | ⟨g7, g0, _, H⟩
              · refine pG_pos (c := ¬ v1 = 0) g7 ?_
                replace H := pRun (ls' := [.ref 6, .int p1, .int (f_171 M), .int (f_172 M1)]) (st' := [.int (kI 28), .int (f_171 M)]) 2 rfl H
                rcases pIfc (n1 := 14) rfl (mcb_182 rfl) (mcb_182 rfl) H with ⟨g8, g0, _, H⟩ | ⟨g8, g0, _, H⟩
                · refine pG_pos (c := ¬ (f_171 M) = (kI 28)) g8 ?_
                  replace H := pRun (ls' := [.ref 6, .int p1, .int (f_171 M), .int (f_172 M1)]) (st' := [.ref 6]) 1 rfl H
                  replace H := pGetR (r := 14) (pRf hS (by decide +kernel)) rfl H
                  replace H := pRun (ls' := [.ref 6, .int p1, .int (f_171 M), .int (f_172 M1)]) (st' := [.int (f_172 M1), .int ((f_171 M) - (kI 24)), .ref 14]) 4 rfl H
                  obtain ⟨rv, h1, hc, H⟩ := pCalV 163 2 14 (as := [.int ((f_171 M) - (kI 24)), .int (f_172 M1)]) (rest := []) rfl (by decide) (by decide +kernel) rfl rfl H
                  obtain ⟨v2, M3, hD, H⟩ := pUseU (D_163_ok hS (show pK 3 14 = true by decide +kernel) hc) H
                  refine pG_call (x := v2) (M1 := M3) hD ?_
                  obtain ⟨g0, _, H⟩ := pFall (mcb_182 rfl) H
                  replace H := pRun (ls' := [.ref 6, .int p1, .int (f_171 M), .int (f_172 M1)]) (st' := [.int (kI 59), .int (kI 59), .ref 6]) 3 rfl H
                  obtain ⟨rv, h1, hc, H⟩ := pCalV 176 2 6 (as := [.int (kI 59), .int (kI 59)]) (rest := []) rfl (by decide) (by decide +kernel) rfl rfl H
                  obtain ⟨v3, M4, hD, H⟩ := pUseI (D_176_ok hS hc) H
                  refine pG_call (x := v3) (M1 := M4) hD ?_
                  exact pG_ret (pRetI H)
                · refine pG_neg (c := ¬ (f_171 M) = (kI 28)) g8 ?_
                  replace H := pRun (ls' := [.ref 6, .int p1, .int (f_171 M), .int (f_172 M1)]) (st' := [.ref 6]) 1 rfl H
                  replace H := pGetR (r := 14) (pRf hS (by decide +kernel)) rfl H
                  replace H := pRun (ls' := [.ref 6, .int p1, .int (f_171 M), .int (f_172 M1)]) (st' := [.int (f_172 M1), .ref 14]) 1 rfl H
                  obtain ⟨M3, eM3, H⟩ := pPutN (j := 1) rfl H
                  refine pG_put (M2 := M3) eM3 ?_
                  obtain ⟨g0, _, H⟩ := pGo (n1 := 15) rfl (mcb_182 rfl) H
                  replace H := pRun (ls' := [.ref 6, .int p1, .int (f_171 M), .int (f_172 M1)]) (st' := [.int (kI 59), .int (kI 59), .ref 6]) 3 rfl H
                  obtain ⟨rv, h1, hc, H⟩ := pCalV 176 2 6 (as := [.int (kI 59), .int (kI 59)]) (rest := []) rfl (by decide) (by decide +kernel) rfl rfl H
                  obtain ⟨v2, M4, hD, H⟩ := pUseI (D_176_ok hS hc) H
                  refine pG_call (x := v2) (M1 := M4) hD ?_
                  exact pG_ret (pRetI H)
              · refine pG_neg (c := ¬ v1 = 0) g7 ?_
                replace H := pRun (ls' := [.ref 6, .int p1, .int (f_171 M), .int (f_172 M1)]) (st' := [.int (kI 0)]) 1 rfl H
                exact pG_ret (pRetI H)
            · refine pG_neg (c := ¬ (f_171 M) = (kI 28)) g6 ?_
              replace H := pRun (ls' := [.ref 6, .int p1, .int (f_171 M), .int (f_172 M1)]) (st' := [.int (kI 1), .ref 6]) 1 rfl H
              obtain ⟨g0, _, H⟩ := pGo (n1 := 10) rfl (mcb_182 rfl) H
              obtain ⟨rv, h1, hc, H⟩ := pCalV 183 1 6 (as := [.int (kI 1)]) (rest := []) rfl (by decide) (by decide +kernel) rfl rfl H
              obtain ⟨v1, M2, hD, H⟩ := pUseI (D_183_ok hS hc) H
              refine pG_call (x := v1) (M1 := M2) hD ?_
              rcases pIf0 (n1 := 12) rfl (mcb_182 rfl) (mcb_182 rfl) H with ⟨g7, g0, _, H⟩ | ⟨g7, g0, _, H⟩
              · refine pG_pos (c := ¬ v1 = 0) g7 ?_
                replace H := pRun (ls' := [.ref 6, .int p1, .int (f_171 M), .int (f_172 M1)]) (st' := [.int (kI 28), .int (f_171 M)]) 2 rfl H
                rcases pIfc (n1 := 14) rfl (mcb_182 rfl) (mcb_182 rfl) H with ⟨g8, g0, _, H⟩ | ⟨g8, g0, _, H⟩
                · refine pG_pos (c := ¬ (f_171 M) = (kI 28)) g8 ?_
                  replace H := pRun (ls' := [.ref 6, .int p1, .int (f_171 M), .int (f_172 M1)]) (st' := [.ref 6]) 1 rfl H
                  replace H := pGetR (r := 14) (pRf hS (by decide +kernel)) rfl H
                  replace H := pRun (ls' := [.ref 6, .int p1, .int (f_171 M), .int (f_172 M1)]) (st' := [.int (f_172 M1), .int ((f_171 M) - (kI 24)), .ref 14]) 4 rfl H
                  obtain ⟨rv, h1, hc, H⟩ := pCalV 163 2 14 (as := [.int ((f_171 M) - (kI 24)), .int (f_172 M1)]) (rest := []) rfl (by decide) (by decide +kernel) rfl rfl H
                  obtain ⟨v2, M3, hD, H⟩ := pUseU (D_163_ok hS (show pK 3 14 = true by decide +kernel) hc) H
                  refine pG_call (x := v2) (M1 := M3) hD ?_
                  obtain ⟨g0, _, H⟩ := pFall (mcb_182 rfl) H
                  replace H := pRun (ls' := [.ref 6, .int p1, .int (f_171 M), .int (f_172 M1)]) (st' := [.int (kI 59), .int (kI 59), .ref 6]) 3 rfl H
                  obtain ⟨rv, h1, hc, H⟩ := pCalV 176 2 6 (as := [.int (kI 59), .int (kI 59)]) (rest := []) rfl (by decide) (by decide +kernel) rfl rfl H
                  obtain ⟨v3, M4, hD, H⟩ := pUseI (D_176_ok hS hc) H
                  refine pG_call (x := v3) (M1 := M4) hD ?_
                  exact pG_ret (pRetI H)
                · refine pG_neg (c := ¬ (f_171 M) = (kI 28)) g8 ?_
                  replace H := pRun (ls' := [.ref 6, .int p1, .int (f_171 M), .int (f_172 M1)]) (st' := [.ref 6]) 1 rfl H
                  replace H := pGetR (r := 14) (pRf hS (by decide +kernel)) rfl H
                  replace H := pRun (ls' := [.ref 6, .int p1, .int (f_171 M), .int (f_172 M1)]) (st' := [.int (f_172 M1), .ref 14]) 1 rfl H
                  obtain ⟨M3, eM3, H⟩ := pPutN (j := 1) rfl H
                  refine pG_put (M2 := M3) eM3 ?_
                  obtain ⟨g0, _, H⟩ := pGo (n1 := 15) rfl (mcb_182 rfl) H
                  replace H := pRun (ls' := [.ref 6, .int p1, .int (f_171 M), .int (f_172 M1)]) (st' := [.int (kI 59), .int (kI 59), .ref 6]) 3 rfl H
                  obtain ⟨rv, h1, hc, H⟩ := pCalV 176 2 6 (as := [.int (kI 59), .int (kI 59)]) (rest := []) rfl (by decide) (by decide +kernel) rfl rfl H
                  obtain ⟨v2, M4, hD, H⟩ := pUseI (D_176_ok hS hc) H
                  refine pG_call (x := v2) (M1 := M4) hD ?_
                  exact pG_ret (pRetI H)
              · refine pG_neg (c := ¬ v1 = 0) g7 ?_
                replace H := pRun (ls' := [.ref 6, .int p1, .int (f_171 M), .int (f_172 M1)]) (st' := [.int (kI 0)]) 1 rfl H
                exact pG_ret (pRetI H)
      · refine pG_neg (c := p1 < (kI 24)) g3 ?_
        replace H := pRun (ls' := [.ref 6, .int p1, .int (f_171 M), aD]) (st' := [.int (kI 3), .ref 6]) 2 rfl H
        obtain ⟨rv, h1, hc, H⟩ := pCalV 173 1 6 (as := [.int (kI 3)]) (rest := []) rfl (by decide) (by decide +kernel) rfl rfl H
        obtain ⟨v1, M1, hD, H⟩ := pUseI (D_173_ok hS hc) H
        refine pG_call (x := v1) (M1 := M1) hD ?_
        exact pG_ret (pRetI H)
    · refine pG_neg (c := (f_171 M) ≤ (kI 28)) g2 ?_
      replace H := pRun (ls' := [.ref 6, .int p1, .int (f_171 M), aD]) (st' := [.int (kI 1), .ref 6]) 2 rfl H
      obtain ⟨rv, h1, hc, H⟩ := pCalV 173 1 6 (as := [.int (kI 1)]) (rest := []) rfl (by decide) (by decide +kernel) rfl rfl H
      obtain ⟨v1, M1, hD, H⟩ := pUseI (D_173_ok hS hc) H
      refine pG_call (x := v1) (M1 := M1) hD ?_
      exact pG_ret (pRetI H)
def l_182 : List (Nat × Nat) := [(6, 4), (6, 5), (6, 3), (14, 1), (15, 999), (16, 999), (17, 999), (14, 0)]
theorem F_182 {p1 : Int32} {M : pMem} {v : Int32} {N : pMem} (h : D_182 p1 M v N) : pFr (l_182) M N :=
  (show pTf (l_182) M (D_182 p1 M) from (tf_if (tf_call pFr_refl (fun _ _ h => F_173 h) [0, 1] rfl fun _ M1 f1 => (tf_ret f1)) (tf_if (tf_if (tf_put pFr_refl 2 rfl fun M1 f1 => (tf_if (tf_if (tf_call f1 (fun _ _ h => F_183 h) [2, 0, 1] rfl fun _ M2 f2 => (tf_if (tf_if (tf_call f2 (fun _ _ h => F_163 (show pK 3 14 = true by decide +kernel) h) [3, 4, 5, 6, 7] rfl fun _ M3 f3 => (tf_call f3 (fun _ _ h => F_176 h) [0, 1, 2] rfl fun _ M4 f4 => (tf_ret f4))) (tf_put f2 3 rfl fun M3 f3 => (tf_call f3 (fun _ _ h => F_176 h) [0, 1, 2] rfl fun _ M4 f4 => (tf_ret f4)))) (tf_ret f2))) (tf_call f1 (fun _ _ h => F_183 h) [2, 0, 1] rfl fun _ M2 f2 => (tf_if (tf_if (tf_call f2 (fun _ _ h => F_163 (show pK 3 14 = true by decide +kernel) h) [3, 4, 5, 6, 7] rfl fun _ M3 f3 => (tf_call f3 (fun _ _ h => F_176 h) [0, 1, 2] rfl fun _ M4 f4 => (tf_ret f4))) (tf_put f2 3 rfl fun M3 f3 => (tf_call f3 (fun _ _ h => F_176 h) [0, 1, 2] rfl fun _ M4 f4 => (tf_ret f4)))) (tf_ret f2)))) (tf_if (tf_if (tf_call f1 (fun _ _ h => F_163 (show pK 3 14 = true by decide +kernel) h) [3, 4, 5, 6, 7] rfl fun _ M2 f2 => (tf_call f2 (fun _ _ h => F_176 h) [0, 1, 2] rfl fun _ M3 f3 => (tf_ret f3))) (tf_put f1 3 rfl fun M2 f2 => (tf_call f2 (fun _ _ h => F_176 h) [0, 1, 2] rfl fun _ M3 f3 => (tf_ret f3)))) (tf_if (tf_call f1 (fun _ _ h => F_183 h) [2, 0, 1] rfl fun _ M2 f2 => (tf_if (tf_if (tf_call f2 (fun _ _ h => F_163 (show pK 3 14 = true by decide +kernel) h) [3, 4, 5, 6, 7] rfl fun _ M3 f3 => (tf_call f3 (fun _ _ h => F_176 h) [0, 1, 2] rfl fun _ M4 f4 => (tf_ret f4))) (tf_put f2 3 rfl fun M3 f3 => (tf_call f3 (fun _ _ h => F_176 h) [0, 1, 2] rfl fun _ M4 f4 => (tf_ret f4)))) (tf_ret f2))) (tf_call f1 (fun _ _ h => F_183 h) [2, 0, 1] rfl fun _ M2 f2 => (tf_if (tf_if (tf_call f2 (fun _ _ h => F_163 (show pK 3 14 = true by decide +kernel) h) [3, 4, 5, 6, 7] rfl fun _ M3 f3 => (tf_call f3 (fun _ _ h => F_176 h) [0, 1, 2] rfl fun _ M4 f4 => (tf_ret f4))) (tf_put f2 3 rfl fun M3 f3 => (tf_call f3 (fun _ _ h => F_176 h) [0, 1, 2] rfl fun _ M4 f4 => (tf_ret f4)))) (tf_ret f2))))))) (tf_call pFr_refl (fun _ _ h => F_173 h) [0, 1] rfl fun _ M1 f1 => (tf_ret f1))) (tf_call pFr_refl (fun _ _ h => F_173 h) [0, 1] rfl fun _ M1 f1 => (tf_ret f1))))) v N h
/-- TwoCamps$Reader.readPlan(LTwoCamps$Plan;)I -/
def S_181_1 (pl : Nat) (P1 : Int32 → pMem → pT Int32) (x2 : Int32) (M : pMem) : pT Int32 := tIf ((kI 24) < x2) (tCall (D_161 pl 14 M) fun _ M1 => tRet x2 M1) (tIf ((f_171 M) = (kI 101)) (tCall (D_161 pl 14 M) fun _ M1 => tRet x2 M1) (tCall (D_182 x2 M) fun v1 M1 => tIf (¬ v1 = 0) (P1 (x2 + kI 1) M1) (tRet (kI (-1)) M1)))
def C_181 (pl : Nat) (P1 : Int32 → pMem → pT Int32) : Prop := (∀ (x2 : Int32) M v N, S_181_1 pl P1 x2 M v N → P1 x2 M v N)
def L_181_1 (pl : Nat) (x2 : Int32) (M : pMem) : pT Int32 := fun v N => ∀ P : (Int32 → pMem → pT Int32), C_181 pl P → P x2 M v N
def D_181 (pl : Nat) (M : pMem) : pT Int32 := tCall (D_162 14 M) fun _ M1 => L_181_1 pl (kI 0) M1
theorem K_181 {X : aX} {F d : Nat} {K : Nat → aK} (hS : pS K) {pl : Nat} (hpl : pK 3 pl = true) {out : Option Value × aH} (P1 : Int32 → pMem → pT Int32) (hC : C_181 pl P1) : ∀ f, (∀ (x2 : Int32) M, pm X F d 181 f 1 [.iload 2, .bipush 24, .if_icmp .gt 6] [.ref 6, .ref pl, .int x2] [] (pH K M) out → pG eI K out (P1 x2 M)) := by
  intro f
  induction f using Nat.strongRecOn with
  | _ f ih =>
    intro x2 M H
    refine pG_mono (fun v N h => hC x2 M v N h) ?_
    unfold S_181_1
    replace H := pRun (ls' := [.ref 6, .ref pl, .int x2]) (st' := [.int (kI 24), .int x2]) 2 rfl H
    rcases pIfc (n1 := 6) rfl (mcb_181 rfl) (mcb_181 rfl) H with ⟨g1, g0, _, H⟩ | ⟨g1, g0, _, H⟩
    · refine pG_pos (c := (kI 24) < x2) g1 ?_
      replace H := pRun (ls' := [.ref 6, .ref pl, .int x2]) (st' := [.ref 6, .ref pl]) 2 rfl H
      replace H := pGetR (r := 14) (pRf hS (by decide +kernel)) rfl H
      obtain ⟨rv, h1, hc, H⟩ := pCalV 161 1 pl (as := [.ref 14]) (rest := []) rfl (by decide) (by decide +kernel) rfl rfl H
      obtain ⟨v1, M1, hD, H⟩ := pUseU (D_161_ok hS hpl (show pK 3 14 = true by decide +kernel) hc) H
      refine pG_call (x := v1) (M1 := M1) hD ?_
      replace H := pRun (ls' := [.ref 6, .ref pl, .int x2]) (st' := [.int x2]) 1 rfl H
      exact pG_ret (pRetI H)
    · refine pG_neg (c := (kI 24) < x2) g1 ?_
      replace H := pRun (ls' := [.ref 6, .ref pl, .int x2]) (st' := [.ref 6]) 1 rfl H
      obtain ⟨rv, h1, hc, H⟩ := pCalV 171 0 6 (as := []) (rest := []) rfl (by decide) (by decide +kernel) rfl rfl H
      replace H := pUseF (f_171_ok hS hc) H
      replace H := pRun (ls' := [.ref 6, .ref pl, .int x2]) (st' := [.int (kI 101), .int (f_171 M)]) 1 rfl H
      rcases pIfc (n1 := 6) rfl (mcb_181 rfl) (mcb_181 rfl) H with ⟨g2, g0, _, H⟩ | ⟨g2, g0, _, H⟩
      · refine pG_pos (c := (f_171 M) = (kI 101)) g2 ?_
        replace H := pRun (ls' := [.ref 6, .ref pl, .int x2]) (st' := [.ref 6, .ref pl]) 2 rfl H
        replace H := pGetR (r := 14) (pRf hS (by decide +kernel)) rfl H
        obtain ⟨rv, h1, hc, H⟩ := pCalV 161 1 pl (as := [.ref 14]) (rest := []) rfl (by decide) (by decide +kernel) rfl rfl H
        obtain ⟨v1, M1, hD, H⟩ := pUseU (D_161_ok hS hpl (show pK 3 14 = true by decide +kernel) hc) H
        refine pG_call (x := v1) (M1 := M1) hD ?_
        replace H := pRun (ls' := [.ref 6, .ref pl, .int x2]) (st' := [.int x2]) 1 rfl H
        exact pG_ret (pRetI H)
      · refine pG_neg (c := (f_171 M) = (kI 101)) g2 ?_
        replace H := pRun (ls' := [.ref 6, .ref pl, .int x2]) (st' := [.int x2, .ref 6]) 2 rfl H
        obtain ⟨rv, h1, hc, H⟩ := pCalV 182 1 6 (as := [.int x2]) (rest := []) rfl (by decide) (by decide +kernel) rfl rfl H
        obtain ⟨v1, M1, hD, H⟩ := pUseI (D_182_ok hS hc) H
        refine pG_call (x := v1) (M1 := M1) hD ?_
        rcases pIf0 (n1 := 5) rfl (mcb_181 rfl) (mcb_181 rfl) H with ⟨g3, g0, _, H⟩ | ⟨g3, g0, _, H⟩
        · refine pG_pos (c := ¬ v1 = 0) g3 ?_
          replace H := pRun (ls' := [.ref 6, .ref pl, .int (x2 + kI 1)]) (st' := []) 1 rfl H
          obtain ⟨g0, _, H⟩ := pGo (n1 := 1) rfl (mcb_181 rfl) H
          exact (ih _ (by omega)) _  _ H
        · refine pG_neg (c := ¬ v1 = 0) g3 ?_
          replace H := pRun (ls' := [.ref 6, .ref pl, .int x2]) (st' := [.int (kI (-1))]) 1 rfl H
          exact pG_ret (pRetI H)
theorem L_181_1_ok {X : aX} {F d : Nat} {K : Nat → aK} (hS : pS K) {pl : Nat} (hpl : pK 3 pl = true) {out : Option Value × aH} {f : Nat} {x2 : Int32} {M : pMem} (H : pm X F d 181 f 1 [.iload 2, .bipush 24, .if_icmp .gt 6] [.ref 6, .ref pl, .int x2] [] (pH K M) out) : pG eI K out (L_181_1 pl x2 M) := by
  refine pG_all (C := fun P : (Int32 → pMem → pT Int32) => C_181 pl P) (T := fun P => P x2 M) eI_inj (fun _ _ _ _ => True) ?_ (fun P hP => (K_181 hS hpl P hP f) _ _ H)
  exact (fun _ _ _ _ _ => trivial)
theorem D_181_ok {X : aX} {F d : Nat} {K : Nat → aK} (hS : pS K) {pl : Nat} (hpl : pK 3 pl = true) {M : pMem} {out : Option Value × aH} (H : aM X F d 181 [.ref 6, .ref pl] (pH K M) = some out) : pG eI K out (D_181 pl M) := by
  obtain ⟨d', g0, _, H⟩ := pEnt (n := 3) (ls := [.ref 6, .ref pl, aD]) (mcb_181 rfl) (by decide +kernel) rfl H
  unfold D_181
  replace H := pRun (ls' := [.ref 6, .ref pl, aD]) (st' := [.ref 6]) 1 rfl H
  replace H := pGetR (r := 14) (pRf hS (by decide +kernel)) rfl H
  obtain ⟨rv, h1, hc, H⟩ := pCalV 162 0 14 (as := []) (rest := []) rfl (by decide) (by decide +kernel) rfl rfl H
  obtain ⟨v1, M1, hD, H⟩ := pUseU (D_162_ok hS (show pK 3 14 = true by decide +kernel) hc) H
  refine pG_call (x := v1) (M1 := M1) hD ?_
  replace H := pRun (ls' := [.ref 6, .ref pl, .int (kI 0)]) (st' := []) 2 rfl H
  obtain ⟨g0, _, H⟩ := pFall (mcb_181 rfl) H
  exact L_181_1_ok hS hpl  H
def l_181 (pl : Nat) : List (Nat × Nat) := [(14, 0), (14, 1), (pl, 0), (pl + 1, 999), (pl + 2, 999), (pl + 3, 999), (6, 4), (6, 5), (6, 3), (15, 999), (16, 999), (17, 999)]
theorem FC_181 {pl : Nat} (hpl : pK 3 pl = true) : C_181 pl (fun _ M _ N => pFr (l_181 pl) M N) := fun x2 M => show pTf (l_181 pl) M (S_181_1 pl _ x2 M) from (tf_if (tf_call pFr_refl (fun _ _ h => F_161 hpl (show pK 3 14 = true by decide +kernel) h) [2, 3, 4, 5] rfl fun _ M1 f1 => (tf_ret f1)) (tf_if (tf_call pFr_refl (fun _ _ h => F_161 hpl (show pK 3 14 = true by decide +kernel) h) [2, 3, 4, 5] rfl fun _ M1 f1 => (tf_ret f1)) (tf_call pFr_refl (fun _ _ h => F_182 h) [6, 7, 8, 1, 9, 10, 11, 0] rfl fun _ M1 f1 => (tf_if (tf_jump f1) (tf_ret f1)))))
theorem F_181 {pl : Nat} (hpl : pK 3 pl = true) {M : pMem} {v : Int32} {N : pMem} (h : D_181 pl M v N) : pFr (l_181 pl) M N :=
  (show pTf (l_181 pl) M (D_181 pl M) from (tf_call pFr_refl (fun _ _ h => F_162 (show pK 3 14 = true by decide +kernel) h) [0, 1] rfl fun _ M1 f1 => (tf_jumpL (fun _ M _ N => pFr (l_181 pl) M N) (FC_181 hpl) rfl f1))) v N h
/-- TwoCamps$Told.lawInForce()LTwoCamps$Law; -/
def D_217 (M : pMem) : pT Nat := tGd (pIn (M 18 7) 4) <| tRet ((30 + 11 * ix (M 18 7))) M
theorem D_217_ok {X : aX} {F d : Nat} {K : Nat → aK} (hS : pS K) {M : pMem} {out : Option Value × aH} (H : aM X F d 217 [.ref 18] (pH K M) = some out) : pG eR K out (D_217 M) := by
  obtain ⟨d', g0, _, H⟩ := pEnt (n := 1) (ls := [.ref 18]) (mcb_217 rfl) (by decide +kernel) rfl H
  unfold D_217
  replace H := pRun (ls' := [.ref 18]) (st' := [.ref 18]) 1 rfl H
  replace H := pGetR (r := 24) (pRf hS (by decide +kernel)) rfl H
  replace H := pRun (ls' := [.ref 18]) (st' := [.ref 18, .ref 24]) 1 rfl H
  replace H := pGetN (v := M 18 7) rfl (by decide) H
  obtain ⟨g1, H⟩ := pAld (n := 4) (r := 30 + 11 * ix (M 18 7)) (pArL hS (show pAr 24 4 30 11 2 = true by decide +kernel)) (fun h => pArR hS (show pAr 24 4 30 11 2 = true by decide +kernel) h) H
  refine pG_gd g1 ?_
  exact pG_ret (pRetR H)
theorem D_217_k {M : pMem} {v : Nat} {N : pMem} (h : D_217 M v N) : pK 2 v = true := by
  obtain ⟨g, rfl, _⟩ := h
  exact pArK (show pAr 24 4 30 11 2 = true by decide +kernel) (by decide) g
def l_217 : List (Nat × Nat) := []
theorem F_217 {M : pMem} {v : Nat} {N : pMem} (h : D_217 M v N) : pFr (l_217) M N :=
  (show pTf (l_217) M (D_217 M) from (tf_gd fun g1 => (tf_ret pFr_refl))) v N h
/-- TwoCamps$Told.keepDay()V -/
def D_218 (M : pMem) : pT Unit := tIf ((((M 19 4) - (kI 1)) * (kI 8)) < 0) (tRet () M) (tIf (((((M 19 4) - (kI 1)) * (kI 8)) + (kI 8)) ≤ (Int32.ofNat 480)) (tCall (D_228 19 (kI 0) M) fun v1 M1 => tGd (pIn (((M 19 4) - (kI 1)) * (kI 8)) 480) <| tPut (aPut M1 26 (ix (((M 19 4) - (kI 1)) * (kI 8))) v1) fun M2 => tCall (D_228 19 (kI 1) M2) fun v2 M3 => tGd (pIn ((((M 19 4) - (kI 1)) * (kI 8)) + (kI 1)) 480) <| tPut (aPut M3 26 (ix ((((M 19 4) - (kI 1)) * (kI 8)) + (kI 1))) v2) fun M4 => tCall (D_229 19 (kI 0) M4) fun v3 M5 => tGd (pIn ((((M 19 4) - (kI 1)) * (kI 8)) + (kI 2)) 480) <| tPut (aPut M5 26 (ix ((((M 19 4) - (kI 1)) * (kI 8)) + (kI 2))) v3) fun M6 => tCall (D_229 19 (kI 1) M6) fun v4 M7 => tGd (pIn ((((M 19 4) - (kI 1)) * (kI 8)) + (kI 3)) 480) <| tPut (aPut M7 26 (ix ((((M 19 4) - (kI 1)) * (kI 8)) + (kI 3))) v4) fun M8 => tGd (pIn ((((M 19 4) - (kI 1)) * (kI 8)) + (kI 4)) 480) <| tPut (aPut M8 26 (ix ((((M 19 4) - (kI 1)) * (kI 8)) + (kI 4))) (M8 19 9)) fun M9 => tGd (pIn ((((M 19 4) - (kI 1)) * (kI 8)) + (kI 5)) 480) <| tPut (aPut M9 26 (ix ((((M 19 4) - (kI 1)) * (kI 8)) + (kI 5))) (M9 19 11)) fun M10 => tGd (pIn ((((M 19 4) - (kI 1)) * (kI 8)) + (kI 6)) 480) <| tPut (aPut M10 26 (ix ((((M 19 4) - (kI 1)) * (kI 8)) + (kI 6))) (f_239 (M10 19 2))) fun M11 => tGd (pIn ((((M 19 4) - (kI 1)) * (kI 8)) + (kI 7)) 480) <| tPut (aPut M11 26 (ix ((((M 19 4) - (kI 1)) * (kI 8)) + (kI 7))) (M11 19 6)) fun M12 => tRet () M12) (tRet () M))
theorem D_218_ok {X : aX} {F d : Nat} {K : Nat → aK} (hS : pS K) {M : pMem} {out : Option Value × aH} (H : aM X F d 218 [.ref 18] (pH K M) = some out) : pG eU K out (D_218 M) := by
  obtain ⟨d', g0, _, H⟩ := pEnt (n := 2) (ls := [.ref 18, aD]) (mcb_218 rfl) (by decide +kernel) rfl H
  unfold D_218
  replace H := pRun (ls' := [.ref 18, aD]) (st' := [.ref 18]) 1 rfl H
  replace H := pGetR (r := 19) (pRf hS (by decide +kernel)) rfl H
  replace H := pGetN (v := M 19 4) rfl (by decide) H
  replace H := pRun (ls' := [.ref 18, .int (((M 19 4) - (kI 1)) * (kI 8))]) (st' := [.int (((M 19 4) - (kI 1)) * (kI 8))]) 6 rfl H
  rcases pIf0 (n1 := 2) rfl (mcb_218 rfl) (mcb_218 rfl) H with ⟨g1, g0, _, H⟩ | ⟨g1, g0, _, H⟩
  · refine pG_pos (c := (((M 19 4) - (kI 1)) * (kI 8)) < 0) g1 ?_
    exact pG_ret (pRetU H)
  · refine pG_neg (c := (((M 19 4) - (kI 1)) * (kI 8)) < 0) g1 ?_
    replace H := pRun (ls' := [.ref 18, .int (((M 19 4) - (kI 1)) * (kI 8))]) (st' := [.ref 18, .int ((((M 19 4) - (kI 1)) * (kI 8)) + (kI 8))]) 4 rfl H
    replace H := pGetR (r := 26) (pRf hS (by decide +kernel)) rfl H
    replace H := pAln (n := 480) (pLt (show pCa 26 480 = true by decide +kernel)) (pLn hS (show pCa 26 480 = true by decide +kernel)) H
    rcases pIfc (n1 := 3) rfl (mcb_218 rfl) (mcb_218 rfl) H with ⟨g2, g0, _, H⟩ | ⟨g2, g0, _, H⟩
    · refine pG_pos (c := ((((M 19 4) - (kI 1)) * (kI 8)) + (kI 8)) ≤ (Int32.ofNat 480)) g2 ?_
      replace H := pRun (ls' := [.ref 18, .int (((M 19 4) - (kI 1)) * (kI 8))]) (st' := [.ref 18]) 1 rfl H
      replace H := pGetR (r := 26) (pRf hS (by decide +kernel)) rfl H
      replace H := pRun (ls' := [.ref 18, .int (((M 19 4) - (kI 1)) * (kI 8))]) (st' := [.ref 18, .int (((M 19 4) - (kI 1)) * (kI 8)), .ref 26]) 2 rfl H
      replace H := pGetR (r := 19) (pRf hS (by decide +kernel)) rfl H
      replace H := pRun (ls' := [.ref 18, .int (((M 19 4) - (kI 1)) * (kI 8))]) (st' := [.int (kI 0), .ref 19, .int (((M 19 4) - (kI 1)) * (kI 8)), .ref 26]) 1 rfl H
      obtain ⟨rv, h1, hc, H⟩ := pCalV 228 1 19 (as := [.int (kI 0)]) (rest := [.int (((M 19 4) - (kI 1)) * (kI 8)), .ref 26]) rfl (by decide) (by decide +kernel) rfl rfl H
      obtain ⟨v1, M1, hD, H⟩ := pUseI (D_228_ok hS (show pK 10 19 = true by decide +kernel) hc) H
      refine pG_call (x := v1) (M1 := M1) hD ?_
      obtain ⟨g3, M2, eM2, H⟩ := pIst (n := 480) (pLn hS (show pCa 26 480 = true by decide +kernel)) H
      refine pG_gd g3 (pG_put (M2 := M2) eM2 ?_)
      replace H := pRun (ls' := [.ref 18, .int (((M 19 4) - (kI 1)) * (kI 8))]) (st' := [.ref 18]) 1 rfl H
      replace H := pGetR (r := 26) (pRf hS (by decide +kernel)) rfl H
      replace H := pRun (ls' := [.ref 18, .int (((M 19 4) - (kI 1)) * (kI 8))]) (st' := [.ref 18, .int ((((M 19 4) - (kI 1)) * (kI 8)) + (kI 1)), .ref 26]) 4 rfl H
      replace H := pGetR (r := 19) (pRf hS (by decide +kernel)) rfl H
      replace H := pRun (ls' := [.ref 18, .int (((M 19 4) - (kI 1)) * (kI 8))]) (st' := [.int (kI 1), .ref 19, .int ((((M 19 4) - (kI 1)) * (kI 8)) + (kI 1)), .ref 26]) 1 rfl H
      obtain ⟨rv, h1, hc, H⟩ := pCalV 228 1 19 (as := [.int (kI 1)]) (rest := [.int ((((M 19 4) - (kI 1)) * (kI 8)) + (kI 1)), .ref 26]) rfl (by decide) (by decide +kernel) rfl rfl H
      obtain ⟨v2, M3, hD, H⟩ := pUseI (D_228_ok hS (show pK 10 19 = true by decide +kernel) hc) H
      refine pG_call (x := v2) (M1 := M3) hD ?_
      obtain ⟨g4, M4, eM4, H⟩ := pIst (n := 480) (pLn hS (show pCa 26 480 = true by decide +kernel)) H
      refine pG_gd g4 (pG_put (M2 := M4) eM4 ?_)
      replace H := pRun (ls' := [.ref 18, .int (((M 19 4) - (kI 1)) * (kI 8))]) (st' := [.ref 18]) 1 rfl H
      replace H := pGetR (r := 26) (pRf hS (by decide +kernel)) rfl H
      replace H := pRun (ls' := [.ref 18, .int (((M 19 4) - (kI 1)) * (kI 8))]) (st' := [.ref 18, .int ((((M 19 4) - (kI 1)) * (kI 8)) + (kI 2)), .ref 26]) 4 rfl H
      replace H := pGetR (r := 19) (pRf hS (by decide +kernel)) rfl H
      replace H := pRun (ls' := [.ref 18, .int (((M 19 4) - (kI 1)) * (kI 8))]) (st' := [.int (kI 0), .ref 19, .int ((((M 19 4) - (kI 1)) * (kI 8)) + (kI 2)), .ref 26]) 1 rfl H
      obtain ⟨rv, h1, hc, H⟩ := pCalV 229 1 19 (as := [.int (kI 0)]) (rest := [.int ((((M 19 4) - (kI 1)) * (kI 8)) + (kI 2)), .ref 26]) rfl (by decide) (by decide +kernel) rfl rfl H
      obtain ⟨v3, M5, hD, H⟩ := pUseI (D_229_ok hS (show pK 10 19 = true by decide +kernel) hc) H
      refine pG_call (x := v3) (M1 := M5) hD ?_
      obtain ⟨g5, M6, eM6, H⟩ := pIst (n := 480) (pLn hS (show pCa 26 480 = true by decide +kernel)) H
      refine pG_gd g5 (pG_put (M2 := M6) eM6 ?_)
      replace H := pRun (ls' := [.ref 18, .int (((M 19 4) - (kI 1)) * (kI 8))]) (st' := [.ref 18]) 1 rfl H
      replace H := pGetR (r := 26) (pRf hS (by decide +kernel)) rfl H
      replace H := pRun (ls' := [.ref 18, .int (((M 19 4) - (kI 1)) * (kI 8))]) (st' := [.ref 18, .int ((((M 19 4) - (kI 1)) * (kI 8)) + (kI 3)), .ref 26]) 4 rfl H
      replace H := pGetR (r := 19) (pRf hS (by decide +kernel)) rfl H
      replace H := pRun (ls' := [.ref 18, .int (((M 19 4) - (kI 1)) * (kI 8))]) (st' := [.int (kI 1), .ref 19, .int ((((M 19 4) - (kI 1)) * (kI 8)) + (kI 3)), .ref 26]) 1 rfl H
      obtain ⟨rv, h1, hc, H⟩ := pCalV 229 1 19 (as := [.int (kI 1)]) (rest := [.int ((((M 19 4) - (kI 1)) * (kI 8)) + (kI 3)), .ref 26]) rfl (by decide) (by decide +kernel) rfl rfl H
      obtain ⟨v4, M7, hD, H⟩ := pUseI (D_229_ok hS (show pK 10 19 = true by decide +kernel) hc) H
      refine pG_call (x := v4) (M1 := M7) hD ?_
      obtain ⟨g6, M8, eM8, H⟩ := pIst (n := 480) (pLn hS (show pCa 26 480 = true by decide +kernel)) H
      refine pG_gd g6 (pG_put (M2 := M8) eM8 ?_)
      replace H := pRun (ls' := [.ref 18, .int (((M 19 4) - (kI 1)) * (kI 8))]) (st' := [.ref 18]) 1 rfl H
      replace H := pGetR (r := 26) (pRf hS (by decide +kernel)) rfl H
      replace H := pRun (ls' := [.ref 18, .int (((M 19 4) - (kI 1)) * (kI 8))]) (st' := [.ref 18, .int ((((M 19 4) - (kI 1)) * (kI 8)) + (kI 4)), .ref 26]) 4 rfl H
      replace H := pGetR (r := 19) (pRf hS (by decide +kernel)) rfl H
      replace H := pGetN (v := M8 19 9) rfl (by decide) H
      obtain ⟨g7, M9, eM9, H⟩ := pIst (n := 480) (pLn hS (show pCa 26 480 = true by decide +kernel)) H
      refine pG_gd g7 (pG_put (M2 := M9) eM9 ?_)
      replace H := pRun (ls' := [.ref 18, .int (((M 19 4) - (kI 1)) * (kI 8))]) (st' := [.ref 18]) 1 rfl H
      replace H := pGetR (r := 26) (pRf hS (by decide +kernel)) rfl H
      replace H := pRun (ls' := [.ref 18, .int (((M 19 4) - (kI 1)) * (kI 8))]) (st' := [.ref 18, .int ((((M 19 4) - (kI 1)) * (kI 8)) + (kI 5)), .ref 26]) 4 rfl H
      replace H := pGetR (r := 19) (pRf hS (by decide +kernel)) rfl H
      replace H := pGetN (v := M9 19 11) rfl (by decide) H
      obtain ⟨g8, M10, eM10, H⟩ := pIst (n := 480) (pLn hS (show pCa 26 480 = true by decide +kernel)) H
      refine pG_gd g8 (pG_put (M2 := M10) eM10 ?_)
      replace H := pRun (ls' := [.ref 18, .int (((M 19 4) - (kI 1)) * (kI 8))]) (st' := [.ref 18]) 1 rfl H
      replace H := pGetR (r := 26) (pRf hS (by decide +kernel)) rfl H
      replace H := pRun (ls' := [.ref 18, .int (((M 19 4) - (kI 1)) * (kI 8))]) (st' := [.ref 18, .int ((((M 19 4) - (kI 1)) * (kI 8)) + (kI 6)), .ref 26]) 4 rfl H
      replace H := pGetR (r := 19) (pRf hS (by decide +kernel)) rfl H
      replace H := pGetN (v := M10 19 2) rfl (by decide) H
      obtain ⟨rv, h1, hc, H⟩ := pCalT 239 1 (as := [.int (M10 19 2)]) (rest := [.int ((((M 19 4) - (kI 1)) * (kI 8)) + (kI 6)), .ref 26]) rfl (by decide) (by decide +kernel) rfl rfl H
      replace H := pUseF (f_239_ok hS hc) H
      obtain ⟨g9, M11, eM11, H⟩ := pIst (n := 480) (pLn hS (show pCa 26 480 = true by decide +kernel)) H
      refine pG_gd g9 (pG_put (M2 := M11) eM11 ?_)
      replace H := pRun (ls' := [.ref 18, .int (((M 19 4) - (kI 1)) * (kI 8))]) (st' := [.ref 18]) 1 rfl H
      replace H := pGetR (r := 26) (pRf hS (by decide +kernel)) rfl H
      replace H := pRun (ls' := [.ref 18, .int (((M 19 4) - (kI 1)) * (kI 8))]) (st' := [.ref 18, .int ((((M 19 4) - (kI 1)) * (kI 8)) + (kI 7)), .ref 26]) 4 rfl H
      replace H := pGetR (r := 19) (pRf hS (by decide +kernel)) rfl H
      replace H := pGetN (v := M11 19 6) rfl (by decide) H
      obtain ⟨g10, M12, eM12, H⟩ := pIst (n := 480) (pLn hS (show pCa 26 480 = true by decide +kernel)) H
      refine pG_gd g10 (pG_put (M2 := M12) eM12 ?_)
      exact pG_ret (pRetU H)
    · refine pG_neg (c := ((((M 19 4) - (kI 1)) * (kI 8)) + (kI 8)) ≤ (Int32.ofNat 480)) g2 ?_
      exact pG_ret (pRetU H)
def l_218 : List (Nat × Nat) := [(26, 999)]
theorem F_218 {M : pMem} {v : Unit} {N : pMem} (h : D_218 M v N) : pFr (l_218) M N :=
  (show pTf (l_218) M (D_218 M) from (tf_if (tf_ret pFr_refl) (tf_if (tf_call pFr_refl (fun _ _ h => F_228 (show pK 10 19 = true by decide +kernel) h) [] rfl fun _ M1 f1 => (tf_gd fun g3 => (tf_putA f1 0 rfl fun M2 f2 => (tf_call f2 (fun _ _ h => F_228 (show pK 10 19 = true by decide +kernel) h) [] rfl fun _ M3 f3 => (tf_gd fun g4 => (tf_putA f3 0 rfl fun M4 f4 => (tf_call f4 (fun _ _ h => F_229 (show pK 10 19 = true by decide +kernel) h) [] rfl fun _ M5 f5 => (tf_gd fun g5 => (tf_putA f5 0 rfl fun M6 f6 => (tf_call f6 (fun _ _ h => F_229 (show pK 10 19 = true by decide +kernel) h) [] rfl fun _ M7 f7 => (tf_gd fun g6 => (tf_putA f7 0 rfl fun M8 f8 => (tf_gd fun g7 => (tf_putA f8 0 rfl fun M9 f9 => (tf_gd fun g8 => (tf_putA f9 0 rfl fun M10 f10 => (tf_gd fun g9 => (tf_putA f10 0 rfl fun M11 f11 => (tf_gd fun g10 => (tf_putA f11 0 rfl fun M12 f12 => (tf_ret f12))))))))))))))))))))) (tf_ret pFr_refl)))) v N h
/-- TwoCamps$Told.copyFrom(LTwoCamps$Told;)V -/
def S_216b_1 (P1 : Int32 → pMem → pT Unit) (x2 : Int32) (M : pMem) : pT Unit := tIf ((kI 4) ≤ x2) (tPut (aRow M 26 (va_cpy (M 82) (M 26) (ix (kI 0)) (ix (kI 0)) (ix (kI 480)))) fun M1 => tPut (aRow M1 27 (va_cpy (M1 83) (M1 27) (ix (kI 0)) (ix (kI 0)) (ix (kI 5)))) fun M2 => tPut (aRow M2 28 (va_cpy (M2 84) (M2 28) (ix (kI 0)) (ix (kI 0)) (ix (kI 24)))) fun M3 => tPut (aRow M3 29 (va_cpy (M3 85) (M3 29) (ix (kI 0)) (ix (kI 0)) (ix (kI 24)))) fun M4 => tPut (aPut M4 18 7 (M4 74 7)) fun M5 => tPut (aPut M5 18 8 (M5 74 8)) fun M6 => tRet () M6) (tGd (pIn x2 4) <| tGd (pIn x2 4) <| tCall (D_153 (30 + 11 * ix x2) (86 + 11 * ix x2) M) fun _ M1 => tGd (pIn x2 4) <| tGd (pIn x2 4) <| tCall (D_161 (37 + 11 * ix x2) (93 + 11 * ix x2) M1) fun _ M2 => P1 (x2 + kI 1) M2)
def C_216b (P1 : Int32 → pMem → pT Unit) : Prop := (∀ (x2 : Int32) M v N, S_216b_1 P1 x2 M v N → P1 x2 M v N)
def L_216b_1 (x2 : Int32) (M : pMem) : pT Unit := fun v N => ∀ P : (Int32 → pMem → pT Unit), C_216b P → P x2 M v N
def D_216b (M : pMem) : pT Unit := tCall (D_220 19 75 M) fun _ M1 => L_216b_1 (kI 0) M1
theorem K_216b {X : aX} {F d : Nat} {K : Nat → aK} (hS : pS K) {out : Option Value × aH} (P1 : Int32 → pMem → pT Unit) (hC : C_216b P1) : ∀ f, (∀ (x2 : Int32) M, pm X F d 216 f 1 [.iload 2, .bipush 4, .if_icmp .ge 3] [.ref 18, .ref 74, .int x2] [] (pH K M) out → pG eU K out (P1 x2 M)) := by
  intro f
  induction f using Nat.strongRecOn with
  | _ f ih =>
    intro x2 M H
    refine pG_mono (fun v N h => hC x2 M v N h) ?_
    unfold S_216b_1
    replace H := pRun (ls' := [.ref 18, .ref 74, .int x2]) (st' := [.int (kI 4), .int x2]) 2 rfl H
    rcases pIfc (n1 := 3) rfl (mcb_216 rfl) (mcb_216 rfl) H with ⟨g1, g0, _, H⟩ | ⟨g1, g0, _, H⟩
    · refine pG_pos (c := (kI 4) ≤ x2) g1 ?_
      replace H := pRun (ls' := [.ref 18, .ref 74, .int x2]) (st' := [.ref 74]) 1 rfl H
      replace H := pGetR (r := 82) (pRf hS (by decide +kernel)) rfl H
      replace H := pRun (ls' := [.ref 18, .ref 74, .int x2]) (st' := [.ref 18, .int (kI 0), .ref 82]) 2 rfl H
      replace H := pGetR (r := 26) (pRf hS (by decide +kernel)) rfl H
      replace H := pRun (ls' := [.ref 18, .ref 74, .int x2]) (st' := [.int (kI 480), .int (kI 0), .ref 26, .int (kI 0), .ref 82]) 2 rfl H
      obtain ⟨M1, eM1, H⟩ := pCpy rfl H
      refine pG_put (M2 := M1) eM1 ?_
      replace H := pRun (ls' := [.ref 18, .ref 74, .int x2]) (st' := [.ref 74]) 1 rfl H
      replace H := pGetR (r := 83) (pRf hS (by decide +kernel)) rfl H
      replace H := pRun (ls' := [.ref 18, .ref 74, .int x2]) (st' := [.ref 18, .int (kI 0), .ref 83]) 2 rfl H
      replace H := pGetR (r := 27) (pRf hS (by decide +kernel)) rfl H
      replace H := pRun (ls' := [.ref 18, .ref 74, .int x2]) (st' := [.int (kI 5), .int (kI 0), .ref 27, .int (kI 0), .ref 83]) 2 rfl H
      obtain ⟨M2, eM2, H⟩ := pCpy rfl H
      refine pG_put (M2 := M2) eM2 ?_
      replace H := pRun (ls' := [.ref 18, .ref 74, .int x2]) (st' := [.ref 74]) 1 rfl H
      replace H := pGetR (r := 84) (pRf hS (by decide +kernel)) rfl H
      replace H := pRun (ls' := [.ref 18, .ref 74, .int x2]) (st' := [.ref 18, .int (kI 0), .ref 84]) 2 rfl H
      replace H := pGetR (r := 28) (pRf hS (by decide +kernel)) rfl H
      replace H := pRun (ls' := [.ref 18, .ref 74, .int x2]) (st' := [.int (kI 24), .int (kI 0), .ref 28, .int (kI 0), .ref 84]) 2 rfl H
      obtain ⟨M3, eM3, H⟩ := pCpy rfl H
      refine pG_put (M2 := M3) eM3 ?_
      replace H := pRun (ls' := [.ref 18, .ref 74, .int x2]) (st' := [.ref 74]) 1 rfl H
      replace H := pGetR (r := 85) (pRf hS (by decide +kernel)) rfl H
      replace H := pRun (ls' := [.ref 18, .ref 74, .int x2]) (st' := [.ref 18, .int (kI 0), .ref 85]) 2 rfl H
      replace H := pGetR (r := 29) (pRf hS (by decide +kernel)) rfl H
      replace H := pRun (ls' := [.ref 18, .ref 74, .int x2]) (st' := [.int (kI 24), .int (kI 0), .ref 29, .int (kI 0), .ref 85]) 2 rfl H
      obtain ⟨M4, eM4, H⟩ := pCpy rfl H
      refine pG_put (M2 := M4) eM4 ?_
      replace H := pRun (ls' := [.ref 18, .ref 74, .int x2]) (st' := [.ref 74, .ref 18]) 2 rfl H
      replace H := pGetN (v := M4 74 7) rfl (by decide) H
      obtain ⟨M5, eM5, H⟩ := pPutN (j := 7) rfl H
      refine pG_put (M2 := M5) eM5 ?_
      replace H := pRun (ls' := [.ref 18, .ref 74, .int x2]) (st' := [.ref 74, .ref 18]) 2 rfl H
      replace H := pGetN (v := M5 74 8) rfl (by decide) H
      obtain ⟨M6, eM6, H⟩ := pPutN (j := 8) rfl H
      refine pG_put (M2 := M6) eM6 ?_
      exact pG_ret (pRetU H)
    · refine pG_neg (c := (kI 4) ≤ x2) g1 ?_
      replace H := pRun (ls' := [.ref 18, .ref 74, .int x2]) (st' := [.ref 18]) 1 rfl H
      replace H := pGetR (r := 24) (pRf hS (by decide +kernel)) rfl H
      replace H := pRun (ls' := [.ref 18, .ref 74, .int x2]) (st' := [.int x2, .ref 24]) 1 rfl H
      obtain ⟨g2, H⟩ := pAld (n := 4) (r := 30 + 11 * ix x2) (pArL hS (show pAr 24 4 30 11 2 = true by decide +kernel)) (fun h => pArR hS (show pAr 24 4 30 11 2 = true by decide +kernel) h) H
      refine pG_gd g2 ?_
      replace H := pRun (ls' := [.ref 18, .ref 74, .int x2]) (st' := [.ref 74, .ref (30 + 11 * ix x2)]) 1 rfl H
      replace H := pGetR (r := 80) (pRf hS (by decide +kernel)) rfl H
      replace H := pRun (ls' := [.ref 18, .ref 74, .int x2]) (st' := [.int x2, .ref 80, .ref (30 + 11 * ix x2)]) 1 rfl H
      obtain ⟨g3, H⟩ := pAld (n := 4) (r := 86 + 11 * ix x2) (pArL hS (show pAr 80 4 86 11 2 = true by decide +kernel)) (fun h => pArR hS (show pAr 80 4 86 11 2 = true by decide +kernel) h) H
      refine pG_gd g3 ?_
      obtain ⟨rv, h1, hc, H⟩ := pCalV 153 1 (30 + 11 * ix x2) (as := [.ref (86 + 11 * ix x2)]) (rest := []) rfl (by decide) (by decide +kernel) rfl rfl H
      obtain ⟨v1, M1, hD, H⟩ := pUseU (D_153_ok hS (pArK (show pAr 24 4 30 11 2 = true by decide +kernel) (by decide) g2) (pArK (show pAr 80 4 86 11 2 = true by decide +kernel) (by decide) g3) hc) H
      refine pG_call (x := v1) (M1 := M1) hD ?_
      replace H := pRun (ls' := [.ref 18, .ref 74, .int x2]) (st' := [.ref 18]) 1 rfl H
      replace H := pGetR (r := 25) (pRf hS (by decide +kernel)) rfl H
      replace H := pRun (ls' := [.ref 18, .ref 74, .int x2]) (st' := [.int x2, .ref 25]) 1 rfl H
      obtain ⟨g4, H⟩ := pAld (n := 4) (r := 37 + 11 * ix x2) (pArL hS (show pAr 25 4 37 11 3 = true by decide +kernel)) (fun h => pArR hS (show pAr 25 4 37 11 3 = true by decide +kernel) h) H
      refine pG_gd g4 ?_
      replace H := pRun (ls' := [.ref 18, .ref 74, .int x2]) (st' := [.ref 74, .ref (37 + 11 * ix x2)]) 1 rfl H
      replace H := pGetR (r := 81) (pRf hS (by decide +kernel)) rfl H
      replace H := pRun (ls' := [.ref 18, .ref 74, .int x2]) (st' := [.int x2, .ref 81, .ref (37 + 11 * ix x2)]) 1 rfl H
      obtain ⟨g5, H⟩ := pAld (n := 4) (r := 93 + 11 * ix x2) (pArL hS (show pAr 81 4 93 11 3 = true by decide +kernel)) (fun h => pArR hS (show pAr 81 4 93 11 3 = true by decide +kernel) h) H
      refine pG_gd g5 ?_
      obtain ⟨rv, h1, hc, H⟩ := pCalV 161 1 (37 + 11 * ix x2) (as := [.ref (93 + 11 * ix x2)]) (rest := []) rfl (by decide) (by decide +kernel) rfl rfl H
      obtain ⟨v2, M2, hD, H⟩ := pUseU (D_161_ok hS (pArK (show pAr 25 4 37 11 3 = true by decide +kernel) (by decide) g4) (pArK (show pAr 81 4 93 11 3 = true by decide +kernel) (by decide) g5) hc) H
      refine pG_call (x := v2) (M1 := M2) hD ?_
      replace H := pRun (ls' := [.ref 18, .ref 74, .int (x2 + kI 1)]) (st' := []) 1 rfl H
      obtain ⟨g0, _, H⟩ := pGo (n1 := 1) rfl (mcb_216 rfl) H
      exact (ih _ (by omega)) _  _ H
theorem L_216b_1_ok {X : aX} {F d : Nat} {K : Nat → aK} (hS : pS K) {out : Option Value × aH} {f : Nat} {x2 : Int32} {M : pMem} (H : pm X F d 216 f 1 [.iload 2, .bipush 4, .if_icmp .ge 3] [.ref 18, .ref 74, .int x2] [] (pH K M) out) : pG eU K out (L_216b_1 x2 M) := by
  refine pG_all (C := fun P : (Int32 → pMem → pT Unit) => C_216b P) (T := fun P => P x2 M) eU_inj (fun _ _ _ _ => True) ?_ (fun P hP => (K_216b hS P hP f) _ _ H)
  exact (fun _ _ _ _ _ => trivial)
theorem D_216b_ok {X : aX} {F d : Nat} {K : Nat → aK} (hS : pS K) {M : pMem} {out : Option Value × aH} (H : aM X F d 216 [.ref 18, .ref 74] (pH K M) = some out) : pG eU K out (D_216b M) := by
  obtain ⟨d', g0, _, H⟩ := pEnt (n := 3) (ls := [.ref 18, .ref 74, aD]) (mcb_216 rfl) (by decide +kernel) rfl H
  unfold D_216b
  replace H := pRun (ls' := [.ref 18, .ref 74, aD]) (st' := [.ref 18]) 1 rfl H
  replace H := pGetR (r := 19) (pRf hS (by decide +kernel)) rfl H
  replace H := pRun (ls' := [.ref 18, .ref 74, aD]) (st' := [.ref 74, .ref 19]) 1 rfl H
  replace H := pGetR (r := 75) (pRf hS (by decide +kernel)) rfl H
  obtain ⟨rv, h1, hc, H⟩ := pCalV 220 1 19 (as := [.ref 75]) (rest := []) rfl (by decide) (by decide +kernel) rfl rfl H
  obtain ⟨v1, M1, hD, H⟩ := pUseU (D_220_ok hS (show pK 10 19 = true by decide +kernel) (show pK 10 75 = true by decide +kernel) hc) H
  refine pG_call (x := v1) (M1 := M1) hD ?_
  replace H := pRun (ls' := [.ref 18, .ref 74, .int (kI 0)]) (st' := []) 2 rfl H
  obtain ⟨g0, _, H⟩ := pFall (mcb_216 rfl) H
  exact L_216b_1_ok hS  H
/-- TwoCamps$Told.copyFrom(LTwoCamps$Told;)V -/
def S_216t_1 (P1 : Int32 → pMem → pT Unit) (x2 : Int32) (M : pMem) : pT Unit := tIf ((kI 4) ≤ x2) (tPut (aRow M 82 (va_cpy (M 26) (M 82) (ix (kI 0)) (ix (kI 0)) (ix (kI 480)))) fun M1 => tPut (aRow M1 83 (va_cpy (M1 27) (M1 83) (ix (kI 0)) (ix (kI 0)) (ix (kI 5)))) fun M2 => tPut (aRow M2 84 (va_cpy (M2 28) (M2 84) (ix (kI 0)) (ix (kI 0)) (ix (kI 24)))) fun M3 => tPut (aRow M3 85 (va_cpy (M3 29) (M3 85) (ix (kI 0)) (ix (kI 0)) (ix (kI 24)))) fun M4 => tPut (aPut M4 74 7 (M4 18 7)) fun M5 => tPut (aPut M5 74 8 (M5 18 8)) fun M6 => tRet () M6) (tGd (pIn x2 4) <| tGd (pIn x2 4) <| tCall (D_153 (86 + 11 * ix x2) (30 + 11 * ix x2) M) fun _ M1 => tGd (pIn x2 4) <| tGd (pIn x2 4) <| tCall (D_161 (93 + 11 * ix x2) (37 + 11 * ix x2) M1) fun _ M2 => P1 (x2 + kI 1) M2)
def C_216t (P1 : Int32 → pMem → pT Unit) : Prop := (∀ (x2 : Int32) M v N, S_216t_1 P1 x2 M v N → P1 x2 M v N)
def L_216t_1 (x2 : Int32) (M : pMem) : pT Unit := fun v N => ∀ P : (Int32 → pMem → pT Unit), C_216t P → P x2 M v N
def D_216t (M : pMem) : pT Unit := tCall (D_220 75 19 M) fun _ M1 => L_216t_1 (kI 0) M1
theorem K_216t {X : aX} {F d : Nat} {K : Nat → aK} (hS : pS K) {out : Option Value × aH} (P1 : Int32 → pMem → pT Unit) (hC : C_216t P1) : ∀ f, (∀ (x2 : Int32) M, pm X F d 216 f 1 [.iload 2, .bipush 4, .if_icmp .ge 3] [.ref 74, .ref 18, .int x2] [] (pH K M) out → pG eU K out (P1 x2 M)) := by
  intro f
  induction f using Nat.strongRecOn with
  | _ f ih =>
    intro x2 M H
    refine pG_mono (fun v N h => hC x2 M v N h) ?_
    unfold S_216t_1
    replace H := pRun (ls' := [.ref 74, .ref 18, .int x2]) (st' := [.int (kI 4), .int x2]) 2 rfl H
    rcases pIfc (n1 := 3) rfl (mcb_216 rfl) (mcb_216 rfl) H with ⟨g1, g0, _, H⟩ | ⟨g1, g0, _, H⟩
    · refine pG_pos (c := (kI 4) ≤ x2) g1 ?_
      replace H := pRun (ls' := [.ref 74, .ref 18, .int x2]) (st' := [.ref 18]) 1 rfl H
      replace H := pGetR (r := 26) (pRf hS (by decide +kernel)) rfl H
      replace H := pRun (ls' := [.ref 74, .ref 18, .int x2]) (st' := [.ref 74, .int (kI 0), .ref 26]) 2 rfl H
      replace H := pGetR (r := 82) (pRf hS (by decide +kernel)) rfl H
      replace H := pRun (ls' := [.ref 74, .ref 18, .int x2]) (st' := [.int (kI 480), .int (kI 0), .ref 82, .int (kI 0), .ref 26]) 2 rfl H
      obtain ⟨M1, eM1, H⟩ := pCpy rfl H
      refine pG_put (M2 := M1) eM1 ?_
      replace H := pRun (ls' := [.ref 74, .ref 18, .int x2]) (st' := [.ref 18]) 1 rfl H
      replace H := pGetR (r := 27) (pRf hS (by decide +kernel)) rfl H
      replace H := pRun (ls' := [.ref 74, .ref 18, .int x2]) (st' := [.ref 74, .int (kI 0), .ref 27]) 2 rfl H
      replace H := pGetR (r := 83) (pRf hS (by decide +kernel)) rfl H
      replace H := pRun (ls' := [.ref 74, .ref 18, .int x2]) (st' := [.int (kI 5), .int (kI 0), .ref 83, .int (kI 0), .ref 27]) 2 rfl H
      obtain ⟨M2, eM2, H⟩ := pCpy rfl H
      refine pG_put (M2 := M2) eM2 ?_
      replace H := pRun (ls' := [.ref 74, .ref 18, .int x2]) (st' := [.ref 18]) 1 rfl H
      replace H := pGetR (r := 28) (pRf hS (by decide +kernel)) rfl H
      replace H := pRun (ls' := [.ref 74, .ref 18, .int x2]) (st' := [.ref 74, .int (kI 0), .ref 28]) 2 rfl H
      replace H := pGetR (r := 84) (pRf hS (by decide +kernel)) rfl H
      replace H := pRun (ls' := [.ref 74, .ref 18, .int x2]) (st' := [.int (kI 24), .int (kI 0), .ref 84, .int (kI 0), .ref 28]) 2 rfl H
      obtain ⟨M3, eM3, H⟩ := pCpy rfl H
      refine pG_put (M2 := M3) eM3 ?_
      replace H := pRun (ls' := [.ref 74, .ref 18, .int x2]) (st' := [.ref 18]) 1 rfl H
      replace H := pGetR (r := 29) (pRf hS (by decide +kernel)) rfl H
      replace H := pRun (ls' := [.ref 74, .ref 18, .int x2]) (st' := [.ref 74, .int (kI 0), .ref 29]) 2 rfl H
      replace H := pGetR (r := 85) (pRf hS (by decide +kernel)) rfl H
      replace H := pRun (ls' := [.ref 74, .ref 18, .int x2]) (st' := [.int (kI 24), .int (kI 0), .ref 85, .int (kI 0), .ref 29]) 2 rfl H
      obtain ⟨M4, eM4, H⟩ := pCpy rfl H
      refine pG_put (M2 := M4) eM4 ?_
      replace H := pRun (ls' := [.ref 74, .ref 18, .int x2]) (st' := [.ref 18, .ref 74]) 2 rfl H
      replace H := pGetN (v := M4 18 7) rfl (by decide) H
      obtain ⟨M5, eM5, H⟩ := pPutN (j := 7) rfl H
      refine pG_put (M2 := M5) eM5 ?_
      replace H := pRun (ls' := [.ref 74, .ref 18, .int x2]) (st' := [.ref 18, .ref 74]) 2 rfl H
      replace H := pGetN (v := M5 18 8) rfl (by decide) H
      obtain ⟨M6, eM6, H⟩ := pPutN (j := 8) rfl H
      refine pG_put (M2 := M6) eM6 ?_
      exact pG_ret (pRetU H)
    · refine pG_neg (c := (kI 4) ≤ x2) g1 ?_
      replace H := pRun (ls' := [.ref 74, .ref 18, .int x2]) (st' := [.ref 74]) 1 rfl H
      replace H := pGetR (r := 80) (pRf hS (by decide +kernel)) rfl H
      replace H := pRun (ls' := [.ref 74, .ref 18, .int x2]) (st' := [.int x2, .ref 80]) 1 rfl H
      obtain ⟨g2, H⟩ := pAld (n := 4) (r := 86 + 11 * ix x2) (pArL hS (show pAr 80 4 86 11 2 = true by decide +kernel)) (fun h => pArR hS (show pAr 80 4 86 11 2 = true by decide +kernel) h) H
      refine pG_gd g2 ?_
      replace H := pRun (ls' := [.ref 74, .ref 18, .int x2]) (st' := [.ref 18, .ref (86 + 11 * ix x2)]) 1 rfl H
      replace H := pGetR (r := 24) (pRf hS (by decide +kernel)) rfl H
      replace H := pRun (ls' := [.ref 74, .ref 18, .int x2]) (st' := [.int x2, .ref 24, .ref (86 + 11 * ix x2)]) 1 rfl H
      obtain ⟨g3, H⟩ := pAld (n := 4) (r := 30 + 11 * ix x2) (pArL hS (show pAr 24 4 30 11 2 = true by decide +kernel)) (fun h => pArR hS (show pAr 24 4 30 11 2 = true by decide +kernel) h) H
      refine pG_gd g3 ?_
      obtain ⟨rv, h1, hc, H⟩ := pCalV 153 1 (86 + 11 * ix x2) (as := [.ref (30 + 11 * ix x2)]) (rest := []) rfl (by decide) (by decide +kernel) rfl rfl H
      obtain ⟨v1, M1, hD, H⟩ := pUseU (D_153_ok hS (pArK (show pAr 80 4 86 11 2 = true by decide +kernel) (by decide) g2) (pArK (show pAr 24 4 30 11 2 = true by decide +kernel) (by decide) g3) hc) H
      refine pG_call (x := v1) (M1 := M1) hD ?_
      replace H := pRun (ls' := [.ref 74, .ref 18, .int x2]) (st' := [.ref 74]) 1 rfl H
      replace H := pGetR (r := 81) (pRf hS (by decide +kernel)) rfl H
      replace H := pRun (ls' := [.ref 74, .ref 18, .int x2]) (st' := [.int x2, .ref 81]) 1 rfl H
      obtain ⟨g4, H⟩ := pAld (n := 4) (r := 93 + 11 * ix x2) (pArL hS (show pAr 81 4 93 11 3 = true by decide +kernel)) (fun h => pArR hS (show pAr 81 4 93 11 3 = true by decide +kernel) h) H
      refine pG_gd g4 ?_
      replace H := pRun (ls' := [.ref 74, .ref 18, .int x2]) (st' := [.ref 18, .ref (93 + 11 * ix x2)]) 1 rfl H
      replace H := pGetR (r := 25) (pRf hS (by decide +kernel)) rfl H
      replace H := pRun (ls' := [.ref 74, .ref 18, .int x2]) (st' := [.int x2, .ref 25, .ref (93 + 11 * ix x2)]) 1 rfl H
      obtain ⟨g5, H⟩ := pAld (n := 4) (r := 37 + 11 * ix x2) (pArL hS (show pAr 25 4 37 11 3 = true by decide +kernel)) (fun h => pArR hS (show pAr 25 4 37 11 3 = true by decide +kernel) h) H
      refine pG_gd g5 ?_
      obtain ⟨rv, h1, hc, H⟩ := pCalV 161 1 (93 + 11 * ix x2) (as := [.ref (37 + 11 * ix x2)]) (rest := []) rfl (by decide) (by decide +kernel) rfl rfl H
      obtain ⟨v2, M2, hD, H⟩ := pUseU (D_161_ok hS (pArK (show pAr 81 4 93 11 3 = true by decide +kernel) (by decide) g4) (pArK (show pAr 25 4 37 11 3 = true by decide +kernel) (by decide) g5) hc) H
      refine pG_call (x := v2) (M1 := M2) hD ?_
      replace H := pRun (ls' := [.ref 74, .ref 18, .int (x2 + kI 1)]) (st' := []) 1 rfl H
      obtain ⟨g0, _, H⟩ := pGo (n1 := 1) rfl (mcb_216 rfl) H
      exact (ih _ (by omega)) _  _ H
theorem L_216t_1_ok {X : aX} {F d : Nat} {K : Nat → aK} (hS : pS K) {out : Option Value × aH} {f : Nat} {x2 : Int32} {M : pMem} (H : pm X F d 216 f 1 [.iload 2, .bipush 4, .if_icmp .ge 3] [.ref 74, .ref 18, .int x2] [] (pH K M) out) : pG eU K out (L_216t_1 x2 M) := by
  refine pG_all (C := fun P : (Int32 → pMem → pT Unit) => C_216t P) (T := fun P => P x2 M) eU_inj (fun _ _ _ _ => True) ?_ (fun P hP => (K_216t hS P hP f) _ _ H)
  exact (fun _ _ _ _ _ => trivial)
theorem D_216t_ok {X : aX} {F d : Nat} {K : Nat → aK} (hS : pS K) {M : pMem} {out : Option Value × aH} (H : aM X F d 216 [.ref 74, .ref 18] (pH K M) = some out) : pG eU K out (D_216t M) := by
  obtain ⟨d', g0, _, H⟩ := pEnt (n := 3) (ls := [.ref 74, .ref 18, aD]) (mcb_216 rfl) (by decide +kernel) rfl H
  unfold D_216t
  replace H := pRun (ls' := [.ref 74, .ref 18, aD]) (st' := [.ref 74]) 1 rfl H
  replace H := pGetR (r := 75) (pRf hS (by decide +kernel)) rfl H
  replace H := pRun (ls' := [.ref 74, .ref 18, aD]) (st' := [.ref 18, .ref 75]) 1 rfl H
  replace H := pGetR (r := 19) (pRf hS (by decide +kernel)) rfl H
  obtain ⟨rv, h1, hc, H⟩ := pCalV 220 1 75 (as := [.ref 19]) (rest := []) rfl (by decide) (by decide +kernel) rfl rfl H
  obtain ⟨v1, M1, hD, H⟩ := pUseU (D_220_ok hS (show pK 10 75 = true by decide +kernel) (show pK 10 19 = true by decide +kernel) hc) H
  refine pG_call (x := v1) (M1 := M1) hD ?_
  replace H := pRun (ls' := [.ref 74, .ref 18, .int (kI 0)]) (st' := []) 2 rfl H
  obtain ⟨g0, _, H⟩ := pFall (mcb_216 rfl) H
  exact L_216t_1_ok hS  H
/-- TwoCamps$Thought.startFrom(LTwoCamps$Told;)LTwoCamps$Wood; -/
def D_207 (M : pMem) : pT Unit := tCall (D_220 143 19 M) fun _ M1 => tRet () M1
theorem D_207_ok {X : aX} {F d : Nat} {K : Nat → aK} (hS : pS K) {M : pMem} {out : Option Value × aH} (H : aM X F d 207 [.ref 138, .ref 18] (pH K M) = some out) : pG (eK 143) K out (D_207 M) := by
  obtain ⟨d', g0, _, H⟩ := pEnt (n := 3) (ls := [.ref 138, .ref 18, aD]) (mcb_207 rfl) (by decide +kernel) rfl H
  unfold D_207
  replace H := pRun (ls' := [.ref 138, .ref 18, aD]) (st' := [.ref 138]) 1 rfl H
  replace H := pGetR (r := 139) (pRf hS (by decide +kernel)) rfl H
  replace H := pRun (ls' := [.ref 138, .ref 18, aD]) (st' := [.int (kI 0), .ref 139]) 1 rfl H
  obtain ⟨g1, H⟩ := pAld (n := 6) (r := 143) (pArL hS (show pAr 139 6 143 5 10 = true by decide +kernel)) (fun _ => pRf hS (by decide +kernel)) H
  clear g1
  replace H := pRun (ls' := [.ref 138, .ref 18, .ref 143]) (st' := [.ref 18, .ref 143]) 3 rfl H
  replace H := pGetR (r := 19) (pRf hS (by decide +kernel)) rfl H
  obtain ⟨rv, h1, hc, H⟩ := pCalV 220 1 143 (as := [.ref 19]) (rest := []) rfl (by decide) (by decide +kernel) rfl rfl H
  obtain ⟨v1, M1, hD, H⟩ := pUseU (D_220_ok hS (show pK 10 143 = true by decide +kernel) (show pK 10 19 = true by decide +kernel) hc) H
  refine pG_call (x := v1) (M1 := M1) hD ?_
  replace H := pRun (ls' := [.ref 138, .ref 18, .ref 143]) (st' := [.ref 143]) 1 rfl H
  exact pG_ret (pRetR H)
def l_207 : List (Nat × Nat) := [(143, 0), (143, 1), (143, 2), (143, 3), (143, 4), (143, 5), (143, 6), (143, 7), (143, 8), (143, 9), (143, 10), (143, 11), (144, 999), (145, 999), (146, 999), (147, 999)]
theorem F_207 {M : pMem} {v : Unit} {N : pMem} (h : D_207 M v N) : pFr (l_207) M N :=
  (show pTf (l_207) M (D_207 M) from (tf_call pFr_refl (fun _ _ h => F_220 (show pK 10 143 = true by decide +kernel) (show pK 10 19 = true by decide +kernel) h) [0, 1, 2, 3, 4, 5, 6, 7, 8, 9, 10, 11, 12, 13, 14, 15] rfl fun _ M1 f1 => (tf_ret f1))) v N h
