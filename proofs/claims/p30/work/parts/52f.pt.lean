/-! what runs come to, method by method: printed by wip/pm/pm.py -/
/-- TwoCamps$Thought.lead(LTwoCamps$Told;LTwoCamps$Plan;LTwoCamps$Law;Z)LTwoCamps$Wood; -/
def S_208_1 (pl : Nat) (l : Nat) (p4 : Int32) (P1 : Int32 → pMem → pT Unit) (x6 : Int32) (M : pMem) : pT Unit := tIf ((M pl 0) ≤ x6) (tRet () M) (tIf ((kI 60) ≤ (M 143 4)) (tRet () M) (tIf (p4 = 0) (tGd (pIn x6 24) <| tGd (pIn x6 24) <| tCall (D_138 143 l (M (pl + 1) (ix x6)) (M (pl + 2) (ix x6)) (kI (-1)) M) fun v1 M1 => tIf (v1 ≤ 0) (tGd (pIn x6 24) <| tIf ((M1 28 (ix x6)) = (kI (-100))) (P1 (x6 + kI 1) M1) (tCall (D_230 143 M1) fun v2 M2 => tGd (pIn x6 24) <| tPut (aPut M2 138 3 ((M1 138 3) + (pAbs (v2 - (M2 28 (ix x6)))))) fun M3 => P1 (x6 + kI 1) M3)) (tIf (¬ (M1 138 2) = (kI (-1))) (tGd (pIn x6 24) <| tIf ((M1 28 (ix x6)) = (kI (-100))) (P1 (x6 + kI 1) M1) (tCall (D_230 143 M1) fun v2 M2 => tGd (pIn x6 24) <| tPut (aPut M2 138 3 ((M1 138 3) + (pAbs (v2 - (M2 28 (ix x6)))))) fun M3 => P1 (x6 + kI 1) M3)) (tPut (aPut M1 138 2 (x6 + (kI 1))) fun M2 => tGd (pIn x6 24) <| tIf ((M2 28 (ix x6)) = (kI (-100))) (P1 (x6 + kI 1) M2) (tCall (D_230 143 M2) fun v2 M3 => tGd (pIn x6 24) <| tPut (aPut M3 138 3 ((M2 138 3) + (pAbs (v2 - (M3 28 (ix x6)))))) fun M4 => P1 (x6 + kI 1) M4)))) (tGd (pIn x6 24) <| tGd (pIn x6 24) <| tGd (pIn x6 24) <| tCall (D_138 143 l (M (pl + 1) (ix x6)) (M (pl + 2) (ix x6)) (M (pl + 3) (ix x6)) M) fun v1 M1 => tIf (v1 ≤ 0) (tGd (pIn x6 24) <| tIf ((M1 28 (ix x6)) = (kI (-100))) (P1 (x6 + kI 1) M1) (tCall (D_230 143 M1) fun v2 M2 => tGd (pIn x6 24) <| tPut (aPut M2 138 3 ((M1 138 3) + (pAbs (v2 - (M2 28 (ix x6)))))) fun M3 => P1 (x6 + kI 1) M3)) (tIf (¬ (M1 138 2) = (kI (-1))) (tGd (pIn x6 24) <| tIf ((M1 28 (ix x6)) = (kI (-100))) (P1 (x6 + kI 1) M1) (tCall (D_230 143 M1) fun v2 M2 => tGd (pIn x6 24) <| tPut (aPut M2 138 3 ((M1 138 3) + (pAbs (v2 - (M2 28 (ix x6)))))) fun M3 => P1 (x6 + kI 1) M3)) (tPut (aPut M1 138 2 (x6 + (kI 1))) fun M2 => tGd (pIn x6 24) <| tIf ((M2 28 (ix x6)) = (kI (-100))) (P1 (x6 + kI 1) M2) (tCall (D_230 143 M2) fun v2 M3 => tGd (pIn x6 24) <| tPut (aPut M3 138 3 ((M2 138 3) + (pAbs (v2 - (M3 28 (ix x6)))))) fun M4 => P1 (x6 + kI 1) M4))))))
def C_208 (pl : Nat) (l : Nat) (p4 : Int32) (P1 : Int32 → pMem → pT Unit) : Prop := (∀ (x6 : Int32) M v N, S_208_1 pl l p4 P1 x6 M v N → P1 x6 M v N)
def L_208_1 (pl : Nat) (l : Nat) (p4 : Int32) (x6 : Int32) (M : pMem) : pT Unit := fun v N => ∀ P : (Int32 → pMem → pT Unit), C_208 pl l p4 P → P x6 M v N
def D_208 (pl : Nat) (l : Nat) (p4 : Int32) (M : pMem) : pT Unit := tCall (D_207 M) fun _ M1 => tPut (aPut M1 138 2 (kI (-1))) fun M2 => tPut (aPut M2 138 3 (kI 0)) fun M3 => L_208_1 pl l p4 (kI 0) M3
theorem K_208 {X : aX} {F d : Nat} {K : Nat → aK} (hS : pS K) {pl : Nat} {l : Nat} {p4 : Int32} (hpl : pK 3 pl = true) (hl : pK 2 l = true) {out : Option Value × aH} (P1 : Int32 → pMem → pT Unit) (hC : C_208 pl l p4 P1) : ∀ f, (∀ (x6 : Int32) (u7 : Value) (u8 : Value) M, pm X F d 208 f 1 [.iload 6, .aload 2, .getfield 26003000, .if_icmp .ge 12] [.ref 138, .ref 18, .ref pl, .ref l, .int p4, .ref 143, .int x6, u7, u8] [] (pH K M) out → pG (eK 143) K out (P1 x6 M)) := by
  intro f
  induction f using Nat.strongRecOn with
  | _ f ih =>
    intro x6 u7 u8 M H
    refine pG_mono (fun v N h => hC x6 M v N h) ?_
    unfold S_208_1
    replace H := pRun (ls' := [.ref 138, .ref 18, .ref pl, .ref l, .int p4, .ref 143, .int x6, u7, u8]) (st' := [.ref pl, .int x6]) 2 rfl H
    replace H := pGetN (v := M pl 0) rfl (by decide) H
    rcases pIfc (n1 := 12) rfl (mcb_208 rfl) (mcb_208 rfl) H with ⟨g1, g0, _, H⟩ | ⟨g1, g0, _, H⟩
    · refine pG_pos (c := (M pl 0) ≤ x6) g1 ?_
      replace H := pRun (ls' := [.ref 138, .ref 18, .ref pl, .ref l, .int p4, .ref 143, .int x6, u7, u8]) (st' := [.ref 143]) 1 rfl H
      exact pG_ret (pRetR H)
    · refine pG_neg (c := (M pl 0) ≤ x6) g1 ?_
      replace H := pRun (ls' := [.ref 138, .ref 18, .ref pl, .ref l, .int p4, .ref 143, .int x6, u7, u8]) (st' := [.ref 143]) 1 rfl H
      replace H := pGetN (v := M 143 4) rfl (by decide) H
      replace H := pRun (ls' := [.ref 138, .ref 18, .ref pl, .ref l, .int p4, .ref 143, .int x6, u7, u8]) (st' := [.int (kI 60), .int (M 143 4)]) 1 rfl H
      rcases pIfc (n1 := 12) rfl (mcb_208 rfl) (mcb_208 rfl) H with ⟨g2, g0, _, H⟩ | ⟨g2, g0, _, H⟩
      · refine pG_pos (c := (kI 60) ≤ (M 143 4)) g2 ?_
        replace H := pRun (ls' := [.ref 138, .ref 18, .ref pl, .ref l, .int p4, .ref 143, .int x6, u7, u8]) (st' := [.ref 143]) 1 rfl H
        exact pG_ret (pRetR H)
      · refine pG_neg (c := (kI 60) ≤ (M 143 4)) g2 ?_
        replace H := pRun (ls' := [.ref 138, .ref 18, .ref pl, .ref l, .int p4, .ref 143, .int x6, u7, u8]) (st' := [.int p4]) 1 rfl H
        rcases pIf0 (n1 := 5) rfl (mcb_208 rfl) (mcb_208 rfl) H with ⟨g3, g0, _, H⟩ | ⟨g3, g0, _, H⟩
        · refine pG_pos (c := p4 = 0) g3 ?_
          replace H := pRun (ls' := [.ref 138, .ref 18, .ref pl, .ref l, .int p4, .ref 143, .int x6, u7, u8]) (st' := [.int (kI (-1))]) 1 rfl H
          obtain ⟨g0, _, H⟩ := pFall (mcb_208 rfl) H
          replace H := pRun (ls' := [.ref 138, .ref 18, .ref pl, .ref l, .int p4, .ref 143, .int x6, .int (kI (-1)), u8]) (st' := [.ref 138]) 2 rfl H
          replace H := pGetR (r := 130) (pRf hS (by decide +kernel)) rfl H
          replace H := pRun (ls' := [.ref 138, .ref 18, .ref pl, .ref l, .int p4, .ref 143, .int x6, .int (kI (-1)), u8]) (st' := [.ref pl, .ref l, .ref 143, .ref 130]) 3 rfl H
          replace H := pGetR (r := pl + 1) (pRw hS hpl (by decide +kernel)) rfl H
          replace H := pRun (ls' := [.ref 138, .ref 18, .ref pl, .ref l, .int p4, .ref 143, .int x6, .int (kI (-1)), u8]) (st' := [.int x6, .ref (pl + 1), .ref l, .ref 143, .ref 130]) 1 rfl H
          obtain ⟨g4, H⟩ := pIld (n := 24) (pLt (pRl (n := 24) hpl (by decide +kernel))) (pLn hS (pRl (n := 24) hpl (by decide +kernel))) H
          refine pG_gd g4 ?_
          replace H := pRun (ls' := [.ref 138, .ref 18, .ref pl, .ref l, .int p4, .ref 143, .int x6, .int (kI (-1)), u8]) (st' := [.ref pl, .int (M (pl + 1) (ix x6)), .ref l, .ref 143, .ref 130]) 1 rfl H
          replace H := pGetR (r := pl + 2) (pRw hS hpl (by decide +kernel)) rfl H
          replace H := pRun (ls' := [.ref 138, .ref 18, .ref pl, .ref l, .int p4, .ref 143, .int x6, .int (kI (-1)), u8]) (st' := [.int x6, .ref (pl + 2), .int (M (pl + 1) (ix x6)), .ref l, .ref 143, .ref 130]) 1 rfl H
          obtain ⟨g5, H⟩ := pIld (n := 24) (pLt (pRl (n := 24) hpl (by decide +kernel))) (pLn hS (pRl (n := 24) hpl (by decide +kernel))) H
          refine pG_gd g5 ?_
          replace H := pRun (ls' := [.ref 138, .ref 18, .ref pl, .ref l, .int p4, .ref 143, .int x6, .int (kI (-1)), u8]) (st' := [.int (kI (-1)), .int (M (pl + 2) (ix x6)), .int (M (pl + 1) (ix x6)), .ref l, .ref 143, .ref 130]) 1 rfl H
          obtain ⟨rv, h1, hc, H⟩ := pCalV 138 5 130 (as := [.ref 143, .ref l, .int (M (pl + 1) (ix x6)), .int (M (pl + 2) (ix x6)), .int (kI (-1))]) (rest := []) rfl (by decide) (by decide +kernel) rfl rfl H
          obtain ⟨v1, M1, hD, H⟩ := pUseI (D_138_ok hS (show pK 10 143 = true by decide +kernel) hl hc) H
          refine pG_call (x := v1) (M1 := M1) hD ?_
          replace H := pRun (ls' := [.ref 138, .ref 18, .ref pl, .ref l, .int p4, .ref 143, .int x6, .int (kI (-1)), .int v1]) (st' := [.int v1]) 2 rfl H
          rcases pIf0 (n1 := 9) rfl (mcb_208 rfl) (mcb_208 rfl) H with ⟨g6, g0, _, H⟩ | ⟨g6, g0, _, H⟩
          · refine pG_pos (c := v1 ≤ 0) g6 ?_
            replace H := pRun (ls' := [.ref 138, .ref 18, .ref pl, .ref l, .int p4, .ref 143, .int x6, .int (kI (-1)), .int v1]) (st' := [.ref 18]) 1 rfl H
            replace H := pGetR (r := 28) (pRf hS (by decide +kernel)) rfl H
            replace H := pRun (ls' := [.ref 138, .ref 18, .ref pl, .ref l, .int p4, .ref 143, .int x6, .int (kI (-1)), .int v1]) (st' := [.int x6, .ref 28]) 1 rfl H
            obtain ⟨g7, H⟩ := pIld (n := 24) (pLt (show pCa 28 24 = true by decide +kernel)) (pLn hS (show pCa 28 24 = true by decide +kernel)) H
            refine pG_gd g7 ?_
            replace H := pRun (ls' := [.ref 138, .ref 18, .ref pl, .ref l, .int p4, .ref 143, .int x6, .int (kI (-1)), .int v1]) (st' := [.int (kI (-100)), .int (M1 28 (ix x6))]) 1 rfl H
            rcases pIfc (n1 := 11) rfl (mcb_208 rfl) (mcb_208 rfl) H with ⟨g8, g0, _, H⟩ | ⟨g8, g0, _, H⟩
            · refine pG_pos (c := (M1 28 (ix x6)) = (kI (-100))) g8 ?_
              replace H := pRun (ls' := [.ref 138, .ref 18, .ref pl, .ref l, .int p4, .ref 143, .int (x6 + kI 1), .int (kI (-1)), .int v1]) (st' := []) 1 rfl H
              obtain ⟨g0, _, H⟩ := pGo (n1 := 1) rfl (mcb_208 rfl) H
              exact (ih _ (by omega)) _ _ _  _ H
            · refine pG_neg (c := (M1 28 (ix x6)) = (kI (-100))) g8 ?_
              replace H := pRun (ls' := [.ref 138, .ref 18, .ref pl, .ref l, .int p4, .ref 143, .int x6, .int (kI (-1)), .int v1]) (st' := [.ref 138, .ref 138]) 2 rfl H
              replace H := pGetN (v := M1 138 3) rfl (by decide) H
              replace H := pRun (ls' := [.ref 138, .ref 18, .ref pl, .ref l, .int p4, .ref 143, .int x6, .int (kI (-1)), .int v1]) (st' := [.ref 143, .int (M1 138 3), .ref 138]) 1 rfl H
              obtain ⟨rv, h1, hc, H⟩ := pCalV 230 0 143 (as := []) (rest := [.int (M1 138 3), .ref 138]) rfl (by decide) (by decide +kernel) rfl rfl H
              obtain ⟨v2, M2, hD, H⟩ := pUseI (D_230_ok hS (show pK 10 143 = true by decide +kernel) hc) H
              refine pG_call (x := v2) (M1 := M2) hD ?_
              replace H := pRun (ls' := [.ref 138, .ref 18, .ref pl, .ref l, .int p4, .ref 143, .int x6, .int (kI (-1)), .int v1]) (st' := [.ref 18, .int v2, .int (M1 138 3), .ref 138]) 1 rfl H
              replace H := pGetR (r := 28) (pRf hS (by decide +kernel)) rfl H
              replace H := pRun (ls' := [.ref 138, .ref 18, .ref pl, .ref l, .int p4, .ref 143, .int x6, .int (kI (-1)), .int v1]) (st' := [.int x6, .ref 28, .int v2, .int (M1 138 3), .ref 138]) 1 rfl H
              obtain ⟨g9, H⟩ := pIld (n := 24) (pLt (show pCa 28 24 = true by decide +kernel)) (pLn hS (show pCa 28 24 = true by decide +kernel)) H
              refine pG_gd g9 ?_
              replace H := pRun (ls' := [.ref 138, .ref 18, .ref pl, .ref l, .int p4, .ref 143, .int x6, .int (kI (-1)), .int v1]) (st' := [.int (v2 - (M2 28 (ix x6))), .int (M1 138 3), .ref 138]) 1 rfl H
              replace H := pAbsI rfl H
              replace H := pRun (ls' := [.ref 138, .ref 18, .ref pl, .ref l, .int p4, .ref 143, .int x6, .int (kI (-1)), .int v1]) (st' := [.int ((M1 138 3) + (pAbs (v2 - (M2 28 (ix x6))))), .ref 138]) 1 rfl H
              obtain ⟨M3, eM3, H⟩ := pPutN (j := 3) rfl H
              refine pG_put (M2 := M3) eM3 ?_
              obtain ⟨g0, _, H⟩ := pFall (mcb_208 rfl) H
              replace H := pRun (ls' := [.ref 138, .ref 18, .ref pl, .ref l, .int p4, .ref 143, .int (x6 + kI 1), .int (kI (-1)), .int v1]) (st' := []) 1 rfl H
              obtain ⟨g0, _, H⟩ := pGo (n1 := 1) rfl (mcb_208 rfl) H
              exact (ih _ (by omega)) _ _ _  _ H
          · refine pG_neg (c := v1 ≤ 0) g6 ?_
            replace H := pRun (ls' := [.ref 138, .ref 18, .ref pl, .ref l, .int p4, .ref 143, .int x6, .int (kI (-1)), .int v1]) (st' := [.ref 138]) 1 rfl H
            replace H := pGetN (v := M1 138 2) rfl (by decide) H
            replace H := pRun (ls' := [.ref 138, .ref 18, .ref pl, .ref l, .int p4, .ref 143, .int x6, .int (kI (-1)), .int v1]) (st' := [.int (kI (-1)), .int (M1 138 2)]) 1 rfl H
            rcases pIfc (n1 := 9) rfl (mcb_208 rfl) (mcb_208 rfl) H with ⟨g7, g0, _, H⟩ | ⟨g7, g0, _, H⟩
            · refine pG_pos (c := ¬ (M1 138 2) = (kI (-1))) g7 ?_
              replace H := pRun (ls' := [.ref 138, .ref 18, .ref pl, .ref l, .int p4, .ref 143, .int x6, .int (kI (-1)), .int v1]) (st' := [.ref 18]) 1 rfl H
              replace H := pGetR (r := 28) (pRf hS (by decide +kernel)) rfl H
              replace H := pRun (ls' := [.ref 138, .ref 18, .ref pl, .ref l, .int p4, .ref 143, .int x6, .int (kI (-1)), .int v1]) (st' := [.int x6, .ref 28]) 1 rfl H
              obtain ⟨g8, H⟩ := pIld (n := 24) (pLt (show pCa 28 24 = true by decide +kernel)) (pLn hS (show pCa 28 24 = true by decide +kernel)) H
              refine pG_gd g8 ?_
              replace H := pRun (ls' := [.ref 138, .ref 18, .ref pl, .ref l, .int p4, .ref 143, .int x6, .int (kI (-1)), .int v1]) (st' := [.int (kI (-100)), .int (M1 28 (ix x6))]) 1 rfl H
              rcases pIfc (n1 := 11) rfl (mcb_208 rfl) (mcb_208 rfl) H with ⟨g9, g0, _, H⟩ | ⟨g9, g0, _, H⟩
              · refine pG_pos (c := (M1 28 (ix x6)) = (kI (-100))) g9 ?_
                replace H := pRun (ls' := [.ref 138, .ref 18, .ref pl, .ref l, .int p4, .ref 143, .int (x6 + kI 1), .int (kI (-1)), .int v1]) (st' := []) 1 rfl H
                obtain ⟨g0, _, H⟩ := pGo (n1 := 1) rfl (mcb_208 rfl) H
                exact (ih _ (by omega)) _ _ _  _ H
              · refine pG_neg (c := (M1 28 (ix x6)) = (kI (-100))) g9 ?_
                replace H := pRun (ls' := [.ref 138, .ref 18, .ref pl, .ref l, .int p4, .ref 143, .int x6, .int (kI (-1)), .int v1]) (st' := [.ref 138, .ref 138]) 2 rfl H
                replace H := pGetN (v := M1 138 3) rfl (by decide) H
                replace H := pRun (ls' := [.ref 138, .ref 18, .ref pl, .ref l, .int p4, .ref 143, .int x6, .int (kI (-1)), .int v1]) (st' := [.ref 143, .int (M1 138 3), .ref 138]) 1 rfl H
                obtain ⟨rv, h1, hc, H⟩ := pCalV 230 0 143 (as := []) (rest := [.int (M1 138 3), .ref 138]) rfl (by decide) (by decide +kernel) rfl rfl H
                obtain ⟨v2, M2, hD, H⟩ := pUseI (D_230_ok hS (show pK 10 143 = true by decide +kernel) hc) H
                refine pG_call (x := v2) (M1 := M2) hD ?_
                replace H := pRun (ls' := [.ref 138, .ref 18, .ref pl, .ref l, .int p4, .ref 143, .int x6, .int (kI (-1)), .int v1]) (st' := [.ref 18, .int v2, .int (M1 138 3), .ref 138]) 1 rfl H
                replace H := pGetR (r := 28) (pRf hS (by decide +kernel)) rfl H
                replace H := pRun (ls' := [.ref 138, .ref 18, .ref pl, .ref l, .int p4, .ref 143, .int x6, .int (kI (-1)), .int v1]) (st' := [.int x6, .ref 28, .int v2, .int (M1 138 3), .ref 138]) 1 rfl H
                obtain ⟨g10, H⟩ := pIld (n := 24) (pLt (show pCa 28 24 = true by decide +kernel)) (pLn hS (show pCa 28 24 = true by decide +kernel)) H
                refine pG_gd g10 ?_
                replace H := pRun (ls' := [.ref 138, .ref 18, .ref pl, .ref l, .int p4, .ref 143, .int x6, .int (kI (-1)), .int v1]) (st' := [.int (v2 - (M2 28 (ix x6))), .int (M1 138 3), .ref 138]) 1 rfl H
                replace H := pAbsI rfl H
                replace H := pRun (ls' := [.ref 138, .ref 18, .ref pl, .ref l, .int p4, .ref 143, .int x6, .int (kI (-1)), .int v1]) (st' := [.int ((M1 138 3) + (pAbs (v2 - (M2 28 (ix x6))))), .ref 138]) 1 rfl H
                obtain ⟨M3, eM3, H⟩ := pPutN (j := 3) rfl H
                refine pG_put (M2 := M3) eM3 ?_
                obtain ⟨g0, _, H⟩ := pFall (mcb_208 rfl) H
                replace H := pRun (ls' := [.ref 138, .ref 18, .ref pl, .ref l, .int p4, .ref 143, .int (x6 + kI 1), .int (kI (-1)), .int v1]) (st' := []) 1 rfl H
                obtain ⟨g0, _, H⟩ := pGo (n1 := 1) rfl (mcb_208 rfl) H
                exact (ih _ (by omega)) _ _ _  _ H
            · refine pG_neg (c := ¬ (M1 138 2) = (kI (-1))) g7 ?_
              replace H := pRun (ls' := [.ref 138, .ref 18, .ref pl, .ref l, .int p4, .ref 143, .int x6, .int (kI (-1)), .int v1]) (st' := [.int (x6 + (kI 1)), .ref 138]) 4 rfl H
              obtain ⟨M2, eM2, H⟩ := pPutN (j := 2) rfl H
              refine pG_put (M2 := M2) eM2 ?_
              obtain ⟨g0, _, H⟩ := pFall (mcb_208 rfl) H
              replace H := pRun (ls' := [.ref 138, .ref 18, .ref pl, .ref l, .int p4, .ref 143, .int x6, .int (kI (-1)), .int v1]) (st' := [.ref 18]) 1 rfl H
              replace H := pGetR (r := 28) (pRf hS (by decide +kernel)) rfl H
              replace H := pRun (ls' := [.ref 138, .ref 18, .ref pl, .ref l, .int p4, .ref 143, .int x6, .int (kI (-1)), .int v1]) (st' := [.int x6, .ref 28]) 1 rfl H
              obtain ⟨g8, H⟩ := pIld (n := 24) (pLt (show pCa 28 24 = true by decide +kernel)) (pLn hS (show pCa 28 24 = true by decide +kernel)) H
              refine pG_gd g8 ?_
              replace H := pRun (ls' := [.ref 138, .ref 18, .ref pl, .ref l, .int p4, .ref 143, .int x6, .int (kI (-1)), .int v1]) (st' := [.int (kI (-100)), .int (M2 28 (ix x6))]) 1 rfl H
              rcases pIfc (n1 := 11) rfl (mcb_208 rfl) (mcb_208 rfl) H with ⟨g9, g0, _, H⟩ | ⟨g9, g0, _, H⟩
              · refine pG_pos (c := (M2 28 (ix x6)) = (kI (-100))) g9 ?_
                replace H := pRun (ls' := [.ref 138, .ref 18, .ref pl, .ref l, .int p4, .ref 143, .int (x6 + kI 1), .int (kI (-1)), .int v1]) (st' := []) 1 rfl H
                obtain ⟨g0, _, H⟩ := pGo (n1 := 1) rfl (mcb_208 rfl) H
                exact (ih _ (by omega)) _ _ _  _ H
              · refine pG_neg (c := (M2 28 (ix x6)) = (kI (-100))) g9 ?_
                replace H := pRun (ls' := [.ref 138, .ref 18, .ref pl, .ref l, .int p4, .ref 143, .int x6, .int (kI (-1)), .int v1]) (st' := [.ref 138, .ref 138]) 2 rfl H
                replace H := pGetN (v := M2 138 3) rfl (by decide) H
                replace H := pRun (ls' := [.ref 138, .ref 18, .ref pl, .ref l, .int p4, .ref 143, .int x6, .int (kI (-1)), .int v1]) (st' := [.ref 143, .int (M2 138 3), .ref 138]) 1 rfl H
                obtain ⟨rv, h1, hc, H⟩ := pCalV 230 0 143 (as := []) (rest := [.int (M2 138 3), .ref 138]) rfl (by decide) (by decide +kernel) rfl rfl H
                obtain ⟨v2, M3, hD, H⟩ := pUseI (D_230_ok hS (show pK 10 143 = true by decide +kernel) hc) H
                refine pG_call (x := v2) (M1 := M3) hD ?_
                replace H := pRun (ls' := [.ref 138, .ref 18, .ref pl, .ref l, .int p4, .ref 143, .int x6, .int (kI (-1)), .int v1]) (st' := [.ref 18, .int v2, .int (M2 138 3), .ref 138]) 1 rfl H
                replace H := pGetR (r := 28) (pRf hS (by decide +kernel)) rfl H
                replace H := pRun (ls' := [.ref 138, .ref 18, .ref pl, .ref l, .int p4, .ref 143, .int x6, .int (kI (-1)), .int v1]) (st' := [.int x6, .ref 28, .int v2, .int (M2 138 3), .ref 138]) 1 rfl H
                obtain ⟨g10, H⟩ := pIld (n := 24) (pLt (show pCa 28 24 = true by decide +kernel)) (pLn hS (show pCa 28 24 = true by decide +kernel)) H
                refine pG_gd g10 ?_
                replace H := pRun (ls' := [.ref 138, .ref 18, .ref pl, .ref l, .int p4, .ref 143, .int x6, .int (kI (-1)), .int v1]) (st' := [.int (v2 - (M3 28 (ix x6))), .int (M2 138 3), .ref 138]) 1 rfl H
                replace H := pAbsI rfl H
                replace H := pRun (ls' := [.ref 138, .ref 18, .ref pl, .ref l, .int p4, .ref 143, .int x6, .int (kI (-1)), .int v1]) (st' := [.int ((M2 138 3) + (pAbs (v2 - (M3 28 (ix x6))))), .ref 138]) 1 rfl H
                obtain ⟨M4, eM4, H⟩ := pPutN (j := 3) rfl H
                refine pG_put (M2 := M4) eM4 ?_
                obtain ⟨g0, _, H⟩ := pFall (mcb_208 rfl) H
                replace H := pRun (ls' := [.ref 138, .ref 18, .ref pl, .ref l, .int p4, .ref 143, .int (x6 + kI 1), .int (kI (-1)), .int v1]) (st' := []) 1 rfl H
                obtain ⟨g0, _, H⟩ := pGo (n1 := 1) rfl (mcb_208 rfl) H
                exact (ih _ (by omega)) _ _ _  _ H
        · refine pG_neg (c := p4 = 0) g3 ?_
          replace H := pRun (ls' := [.ref 138, .ref 18, .ref pl, .ref l, .int p4, .ref 143, .int x6, u7, u8]) (st' := [.ref pl]) 1 rfl H
          replace H := pGetR (r := pl + 3) (pRw hS hpl (by decide +kernel)) rfl H
          replace H := pRun (ls' := [.ref 138, .ref 18, .ref pl, .ref l, .int p4, .ref 143, .int x6, u7, u8]) (st' := [.int x6, .ref (pl + 3)]) 1 rfl H
          obtain ⟨g4, H⟩ := pIld (n := 24) (pLt (pRl (n := 24) hpl (by decide +kernel))) (pLn hS (pRl (n := 24) hpl (by decide +kernel))) H
          refine pG_gd g4 ?_
          obtain ⟨g0, _, H⟩ := pGo (n1 := 6) rfl (mcb_208 rfl) H
          replace H := pRun (ls' := [.ref 138, .ref 18, .ref pl, .ref l, .int p4, .ref 143, .int x6, .int (M (pl + 3) (ix x6)), u8]) (st' := [.ref 138]) 2 rfl H
          replace H := pGetR (r := 130) (pRf hS (by decide +kernel)) rfl H
          replace H := pRun (ls' := [.ref 138, .ref 18, .ref pl, .ref l, .int p4, .ref 143, .int x6, .int (M (pl + 3) (ix x6)), u8]) (st' := [.ref pl, .ref l, .ref 143, .ref 130]) 3 rfl H
          replace H := pGetR (r := pl + 1) (pRw hS hpl (by decide +kernel)) rfl H
          replace H := pRun (ls' := [.ref 138, .ref 18, .ref pl, .ref l, .int p4, .ref 143, .int x6, .int (M (pl + 3) (ix x6)), u8]) (st' := [.int x6, .ref (pl + 1), .ref l, .ref 143, .ref 130]) 1 rfl H
          obtain ⟨g5, H⟩ := pIld (n := 24) (pLt (pRl (n := 24) hpl (by decide +kernel))) (pLn hS (pRl (n := 24) hpl (by decide +kernel))) H
          refine pG_gd g5 ?_
          replace H := pRun (ls' := [.ref 138, .ref 18, .ref pl, .ref l, .int p4, .ref 143, .int x6, .int (M (pl + 3) (ix x6)), u8]) (st' := [.ref pl, .int (M (pl + 1) (ix x6)), .ref l, .ref 143, .ref 130]) 1 rfl H
          replace H := pGetR (r := pl + 2) (pRw hS hpl (by decide +kernel)) rfl H
          replace H := pRun (ls' := [.ref 138, .ref 18, .ref pl, .ref l, .int p4, .ref 143, .int x6, .int (M (pl + 3) (ix x6)), u8]) (st' := [.int x6, .ref (pl + 2), .int (M (pl + 1) (ix x6)), .ref l, .ref 143, .ref 130]) 1 rfl H
          obtain ⟨g6, H⟩ := pIld (n := 24) (pLt (pRl (n := 24) hpl (by decide +kernel))) (pLn hS (pRl (n := 24) hpl (by decide +kernel))) H
          refine pG_gd g6 ?_
          replace H := pRun (ls' := [.ref 138, .ref 18, .ref pl, .ref l, .int p4, .ref 143, .int x6, .int (M (pl + 3) (ix x6)), u8]) (st' := [.int (M (pl + 3) (ix x6)), .int (M (pl + 2) (ix x6)), .int (M (pl + 1) (ix x6)), .ref l, .ref 143, .ref 130]) 1 rfl H
          obtain ⟨rv, h1, hc, H⟩ := pCalV 138 5 130 (as := [.ref 143, .ref l, .int (M (pl + 1) (ix x6)), .int (M (pl + 2) (ix x6)), .int (M (pl + 3) (ix x6))]) (rest := []) rfl (by decide) (by decide +kernel) rfl rfl H
          obtain ⟨v1, M1, hD, H⟩ := pUseI (D_138_ok hS (show pK 10 143 = true by decide +kernel) hl hc) H
          refine pG_call (x := v1) (M1 := M1) hD ?_
          replace H := pRun (ls' := [.ref 138, .ref 18, .ref pl, .ref l, .int p4, .ref 143, .int x6, .int (M (pl + 3) (ix x6)), .int v1]) (st' := [.int v1]) 2 rfl H
          rcases pIf0 (n1 := 9) rfl (mcb_208 rfl) (mcb_208 rfl) H with ⟨g7, g0, _, H⟩ | ⟨g7, g0, _, H⟩
          · refine pG_pos (c := v1 ≤ 0) g7 ?_
            replace H := pRun (ls' := [.ref 138, .ref 18, .ref pl, .ref l, .int p4, .ref 143, .int x6, .int (M (pl + 3) (ix x6)), .int v1]) (st' := [.ref 18]) 1 rfl H
            replace H := pGetR (r := 28) (pRf hS (by decide +kernel)) rfl H
            replace H := pRun (ls' := [.ref 138, .ref 18, .ref pl, .ref l, .int p4, .ref 143, .int x6, .int (M (pl + 3) (ix x6)), .int v1]) (st' := [.int x6, .ref 28]) 1 rfl H
            obtain ⟨g8, H⟩ := pIld (n := 24) (pLt (show pCa 28 24 = true by decide +kernel)) (pLn hS (show pCa 28 24 = true by decide +kernel)) H
            refine pG_gd g8 ?_
            replace H := pRun (ls' := [.ref 138, .ref 18, .ref pl, .ref l, .int p4, .ref 143, .int x6, .int (M (pl + 3) (ix x6)), .int v1]) (st' := [.int (kI (-100)), .int (M1 28 (ix x6))]) 1 rfl H
            rcases pIfc (n1 := 11) rfl (mcb_208 rfl) (mcb_208 rfl) H with ⟨g9, g0, _, H⟩ | ⟨g9, g0, _, H⟩
            · refine pG_pos (c := (M1 28 (ix x6)) = (kI (-100))) g9 ?_
              replace H := pRun (ls' := [.ref 138, .ref 18, .ref pl, .ref l, .int p4, .ref 143, .int (x6 + kI 1), .int (M (pl + 3) (ix x6)), .int v1]) (st' := []) 1 rfl H
              obtain ⟨g0, _, H⟩ := pGo (n1 := 1) rfl (mcb_208 rfl) H
              exact (ih _ (by omega)) _ _ _  _ H
            · refine pG_neg (c := (M1 28 (ix x6)) = (kI (-100))) g9 ?_
              replace H := pRun (ls' := [.ref 138, .ref 18, .ref pl, .ref l, .int p4, .ref 143, .int x6, .int (M (pl + 3) (ix x6)), .int v1]) (st' := [.ref 138, .ref 138]) 2 rfl H
              replace H := pGetN (v := M1 138 3) rfl (by decide) H
              replace H := pRun (ls' := [.ref 138, .ref 18, .ref pl, .ref l, .int p4, .ref 143, .int x6, .int (M (pl + 3) (ix x6)), .int v1]) (st' := [.ref 143, .int (M1 138 3), .ref 138]) 1 rfl H
              obtain ⟨rv, h1, hc, H⟩ := pCalV 230 0 143 (as := []) (rest := [.int (M1 138 3), .ref 138]) rfl (by decide) (by decide +kernel) rfl rfl H
              obtain ⟨v2, M2, hD, H⟩ := pUseI (D_230_ok hS (show pK 10 143 = true by decide +kernel) hc) H
              refine pG_call (x := v2) (M1 := M2) hD ?_
              replace H := pRun (ls' := [.ref 138, .ref 18, .ref pl, .ref l, .int p4, .ref 143, .int x6, .int (M (pl + 3) (ix x6)), .int v1]) (st' := [.ref 18, .int v2, .int (M1 138 3), .ref 138]) 1 rfl H
              replace H := pGetR (r := 28) (pRf hS (by decide +kernel)) rfl H
              replace H := pRun (ls' := [.ref 138, .ref 18, .ref pl, .ref l, .int p4, .ref 143, .int x6, .int (M (pl + 3) (ix x6)), .int v1]) (st' := [.int x6, .ref 28, .int v2, .int (M1 138 3), .ref 138]) 1 rfl H
              obtain ⟨g10, H⟩ := pIld (n := 24) (pLt (show pCa 28 24 = true by decide +kernel)) (pLn hS (show pCa 28 24 = true by decide +kernel)) H
              refine pG_gd g10 ?_
              replace H := pRun (ls' := [.ref 138, .ref 18, .ref pl, .ref l, .int p4, .ref 143, .int x6, .int (M (pl + 3) (ix x6)), .int v1]) (st' := [.int (v2 - (M2 28 (ix x6))), .int (M1 138 3), .ref 138]) 1 rfl H
              replace H := pAbsI rfl H
              replace H := pRun (ls' := [.ref 138, .ref 18, .ref pl, .ref l, .int p4, .ref 143, .int x6, .int (M (pl + 3) (ix x6)), .int v1]) (st' := [.int ((M1 138 3) + (pAbs (v2 - (M2 28 (ix x6))))), .ref 138]) 1 rfl H
              obtain ⟨M3, eM3, H⟩ := pPutN (j := 3) rfl H
              refine pG_put (M2 := M3) eM3 ?_
              obtain ⟨g0, _, H⟩ := pFall (mcb_208 rfl) H
              replace H := pRun (ls' := [.ref 138, .ref 18, .ref pl, .ref l, .int p4, .ref 143, .int (x6 + kI 1), .int (M (pl + 3) (ix x6)), .int v1]) (st' := []) 1 rfl H
              obtain ⟨g0, _, H⟩ := pGo (n1 := 1) rfl (mcb_208 rfl) H
              exact (ih _ (by omega)) _ _ _  _ H
          · refine pG_neg (c := v1 ≤ 0) g7 ?_
            replace H := pRun (ls' := [.ref 138, .ref 18, .ref pl, .ref l, .int p4, .ref 143, .int x6, .int (M (pl + 3) (ix x6)), .int v1]) (st' := [.ref 138]) 1 rfl H
            replace H := pGetN (v := M1 138 2) rfl (by decide) H
            replace H := pRun (ls' := [.ref 138, .ref 18, .ref pl, .ref l, .int p4, .ref 143, .int x6, .int (M (pl + 3) (ix x6)), .int v1]) (st' := [.int (kI (-1)), .int (M1 138 2)]) 1 rfl H
            rcases pIfc (n1 := 9) rfl (mcb_208 rfl) (mcb_208 rfl) H with ⟨g8, g0, _, H⟩ | ⟨g8, g0, _, H⟩
            · refine pG_pos (c := ¬ (M1 138 2) = (kI (-1))) g8 ?_
              replace H := pRun (ls' := [.ref 138, .ref 18, .ref pl, .ref l, .int p4, .ref 143, .int x6, .int (M (pl + 3) (ix x6)), .int v1]) (st' := [.ref 18]) 1 rfl H
              replace H := pGetR (r := 28) (pRf hS (by decide +kernel)) rfl H
              replace H := pRun (ls' := [.ref 138, .ref 18, .ref pl, .ref l, .int p4, .ref 143, .int x6, .int (M (pl + 3) (ix x6)), .int v1]) (st' := [.int x6, .ref 28]) 1 rfl H
              obtain ⟨g9, H⟩ := pIld (n := 24) (pLt (show pCa 28 24 = true by decide +kernel)) (pLn hS (show pCa 28 24 = true by decide +kernel)) H
              refine pG_gd g9 ?_
              replace H := pRun (ls' := [.ref 138, .ref 18, .ref pl, .ref l, .int p4, .ref 143, .int x6, .int (M (pl + 3) (ix x6)), .int v1]) (st' := [.int (kI (-100)), .int (M1 28 (ix x6))]) 1 rfl H
              rcases pIfc (n1 := 11) rfl (mcb_208 rfl) (mcb_208 rfl) H with ⟨g10, g0, _, H⟩ | ⟨g10, g0, _, H⟩
              · refine pG_pos (c := (M1 28 (ix x6)) = (kI (-100))) g10 ?_
                replace H := pRun (ls' := [.ref 138, .ref 18, .ref pl, .ref l, .int p4, .ref 143, .int (x6 + kI 1), .int (M (pl + 3) (ix x6)), .int v1]) (st' := []) 1 rfl H
                obtain ⟨g0, _, H⟩ := pGo (n1 := 1) rfl (mcb_208 rfl) H
                exact (ih _ (by omega)) _ _ _  _ H
              · refine pG_neg (c := (M1 28 (ix x6)) = (kI (-100))) g10 ?_
                replace H := pRun (ls' := [.ref 138, .ref 18, .ref pl, .ref l, .int p4, .ref 143, .int x6, .int (M (pl + 3) (ix x6)), .int v1]) (st' := [.ref 138, .ref 138]) 2 rfl H
                replace H := pGetN (v := M1 138 3) rfl (by decide) H
                replace H := pRun (ls' := [.ref 138, .ref 18, .ref pl, .ref l, .int p4, .ref 143, .int x6, .int (M (pl + 3) (ix x6)), .int v1]) (st' := [.ref 143, .int (M1 138 3), .ref 138]) 1 rfl H
                obtain ⟨rv, h1, hc, H⟩ := pCalV 230 0 143 (as := []) (rest := [.int (M1 138 3), .ref 138]) rfl (by decide) (by decide +kernel) rfl rfl H
                obtain ⟨v2, M2, hD, H⟩ := pUseI (D_230_ok hS (show pK 10 143 = true by decide +kernel) hc) H
                refine pG_call (x := v2) (M1 := M2) hD ?_
                replace H := pRun (ls' := [.ref 138, .ref 18, .ref pl, .ref l, .int p4, .ref 143, .int x6, .int (M (pl + 3) (ix x6)), .int v1]) (st' := [.ref 18, .int v2, .int (M1 138 3), .ref 138]) 1 rfl H
                replace H := pGetR (r := 28) (pRf hS (by decide +kernel)) rfl H
                replace H := pRun (ls' := [.ref 138, .ref 18, .ref pl, .ref l, .int p4, .ref 143, .int x6, .int (M (pl + 3) (ix x6)), .int v1]) (st' := [.int x6, .ref 28, .int v2, .int (M1 138 3), .ref 138]) 1 rfl H
                obtain ⟨g11, H⟩ := pIld (n := 24) (pLt (show pCa 28 24 = true by decide +kernel)) (pLn hS (show pCa 28 24 = true by decide +kernel)) H
                refine pG_gd g11 ?_
                replace H := pRun (ls' := [.ref 138, .ref 18, .ref pl, .ref l, .int p4, .ref 143, .int x6, .int (M (pl + 3) (ix x6)), .int v1]) (st' := [.int (v2 - (M2 28 (ix x6))), .int (M1 138 3), .ref 138]) 1 rfl H
                replace H := pAbsI rfl H
                replace H := pRun (ls' := [.ref 138, .ref 18, .ref pl, .ref l, .int p4, .ref 143, .int x6, .int (M (pl + 3) (ix x6)), .int v1]) (st' := [.int ((M1 138 3) + (pAbs (v2 - (M2 28 (ix x6))))), .ref 138]) 1 rfl H
                obtain ⟨M3, eM3, H⟩ := pPutN (j := 3) rfl H
                refine pG_put (M2 := M3) eM3 ?_
                obtain ⟨g0, _, H⟩ := pFall (mcb_208 rfl) H
                replace H := pRun (ls' := [.ref 138, .ref 18, .ref pl, .ref l, .int p4, .ref 143, .int (x6 + kI 1), .int (M (pl + 3) (ix x6)), .int v1]) (st' := []) 1 rfl H
                obtain ⟨g0, _, H⟩ := pGo (n1 := 1) rfl (mcb_208 rfl) H
                exact (ih _ (by omega)) _ _ _  _ H
            · refine pG_neg (c := ¬ (M1 138 2) = (kI (-1))) g8 ?_
              replace H := pRun (ls' := [.ref 138, .ref 18, .ref pl, .ref l, .int p4, .ref 143, .int x6, .int (M (pl + 3) (ix x6)), .int v1]) (st' := [.int (x6 + (kI 1)), .ref 138]) 4 rfl H
              obtain ⟨M2, eM2, H⟩ := pPutN (j := 2) rfl H
              refine pG_put (M2 := M2) eM2 ?_
              obtain ⟨g0, _, H⟩ := pFall (mcb_208 rfl) H
              replace H := pRun (ls' := [.ref 138, .ref 18, .ref pl, .ref l, .int p4, .ref 143, .int x6, .int (M (pl + 3) (ix x6)), .int v1]) (st' := [.ref 18]) 1 rfl H
              replace H := pGetR (r := 28) (pRf hS (by decide +kernel)) rfl H
              replace H := pRun (ls' := [.ref 138, .ref 18, .ref pl, .ref l, .int p4, .ref 143, .int x6, .int (M (pl + 3) (ix x6)), .int v1]) (st' := [.int x6, .ref 28]) 1 rfl H
              obtain ⟨g9, H⟩ := pIld (n := 24) (pLt (show pCa 28 24 = true by decide +kernel)) (pLn hS (show pCa 28 24 = true by decide +kernel)) H
              refine pG_gd g9 ?_
              replace H := pRun (ls' := [.ref 138, .ref 18, .ref pl, .ref l, .int p4, .ref 143, .int x6, .int (M (pl + 3) (ix x6)), .int v1]) (st' := [.int (kI (-100)), .int (M2 28 (ix x6))]) 1 rfl H
              rcases pIfc (n1 := 11) rfl (mcb_208 rfl) (mcb_208 rfl) H with ⟨g10, g0, _, H⟩ | ⟨g10, g0, _, H⟩
              · refine pG_pos (c := (M2 28 (ix x6)) = (kI (-100))) g10 ?_
                replace H := pRun (ls' := [.ref 138, .ref 18, .ref pl, .ref l, .int p4, .ref 143, .int (x6 + kI 1), .int (M (pl + 3) (ix x6)), .int v1]) (st' := []) 1 rfl H
                obtain ⟨g0, _, H⟩ := pGo (n1 := 1) rfl (mcb_208 rfl) H
                exact (ih _ (by omega)) _ _ _  _ H
              · refine pG_neg (c := (M2 28 (ix x6)) = (kI (-100))) g10 ?_
                replace H := pRun (ls' := [.ref 138, .ref 18, .ref pl, .ref l, .int p4, .ref 143, .int x6, .int (M (pl + 3) (ix x6)), .int v1]) (st' := [.ref 138, .ref 138]) 2 rfl H
                replace H := pGetN (v := M2 138 3) rfl (by decide) H
                replace H := pRun (ls' := [.ref 138, .ref 18, .ref pl, .ref l, .int p4, .ref 143, .int x6, .int (M (pl + 3) (ix x6)), .int v1]) (st' := [.ref 143, .int (M2 138 3), .ref 138]) 1 rfl H
                obtain ⟨rv, h1, hc, H⟩ := pCalV 230 0 143 (as := []) (rest := [.int (M2 138 3), .ref 138]) rfl (by decide) (by decide +kernel) rfl rfl H
                obtain ⟨v2, M3, hD, H⟩ := pUseI (D_230_ok hS (show pK 10 143 = true by decide +kernel) hc) H
                refine pG_call (x := v2) (M1 := M3) hD ?_
                replace H := pRun (ls' := [.ref 138, .ref 18, .ref pl, .ref l, .int p4, .ref 143, .int x6, .int (M (pl + 3) (ix x6)), .int v1]) (st' := [.ref 18, .int v2, .int (M2 138 3), .ref 138]) 1 rfl H
                replace H := pGetR (r := 28) (pRf hS (by decide +kernel)) rfl H
                replace H := pRun (ls' := [.ref 138, .ref 18, .ref pl, .ref l, .int p4, .ref 143, .int x6, .int (M (pl + 3) (ix x6)), .int v1]) (st' := [.int x6, .ref 28, .int v2, .int (M2 138 3), .ref 138]) 1 rfl H
                obtain ⟨g11, H⟩ := pIld (n := 24) (pLt (show pCa 28 24 = true by decide +kernel)) (pLn hS (show pCa 28 24 = true by decide +kernel)) H
                refine pG_gd g11 ?_
                replace H := pRun (ls' := [.ref 138, .ref 18, .ref pl, .ref l, .int p4, .ref 143, .int x6, .int (M (pl + 3) (ix x6)), .int v1]) (st' := [.int (v2 - (M3 28 (ix x6))), .int (M2 138 3), .ref 138]) 1 rfl H
                replace H := pAbsI rfl H
                replace H := pRun (ls' := [.ref 138, .ref 18, .ref pl, .ref l, .int p4, .ref 143, .int x6, .int (M (pl + 3) (ix x6)), .int v1]) (st' := [.int ((M2 138 3) + (pAbs (v2 - (M3 28 (ix x6))))), .ref 138]) 1 rfl H
                obtain ⟨M4, eM4, H⟩ := pPutN (j := 3) rfl H
                refine pG_put (M2 := M4) eM4 ?_
                obtain ⟨g0, _, H⟩ := pFall (mcb_208 rfl) H
                replace H := pRun (ls' := [.ref 138, .ref 18, .ref pl, .ref l, .int p4, .ref 143, .int (x6 + kI 1), .int (M (pl + 3) (ix x6)), .int v1]) (st' := []) 1 rfl H
                obtain ⟨g0, _, H⟩ := pGo (n1 := 1) rfl (mcb_208 rfl) H
                exact (ih _ (by omega)) _ _ _  _ H
theorem L_208_1_ok {X : aX} {F d : Nat} {K : Nat → aK} (hS : pS K) {pl : Nat} {l : Nat} {p4 : Int32} (hpl : pK 3 pl = true) (hl : pK 2 l = true) {out : Option Value × aH} {f : Nat} {x6 : Int32} {u7 : Value} {u8 : Value} {M : pMem} (H : pm X F d 208 f 1 [.iload 6, .aload 2, .getfield 26003000, .if_icmp .ge 12] [.ref 138, .ref 18, .ref pl, .ref l, .int p4, .ref 143, .int x6, u7, u8] [] (pH K M) out) : pG (eK 143) K out (L_208_1 pl l p4 x6 M) := by
  refine pG_all (C := fun P : (Int32 → pMem → pT Unit) => C_208 pl l p4 P) (T := fun P => P x6 M) (fun _ _ _ => rfl) (fun _ _ _ _ => True) ?_ (fun P hP => (K_208 hS hpl hl P hP f) _ _ _ _ H)
  exact (fun _ _ _ _ _ => trivial)
theorem D_208_ok {X : aX} {F d : Nat} {K : Nat → aK} (hS : pS K) {pl : Nat} {l : Nat} {p4 : Int32} (hpl : pK 3 pl = true) (hl : pK 2 l = true) {M : pMem} {out : Option Value × aH} (H : aM X F d 208 [.ref 138, .ref 18, .ref pl, .ref l, .int p4] (pH K M) = some out) : pG (eK 143) K out (D_208 pl l p4 M) := by
  obtain ⟨d', g0, _, H⟩ := pEnt (n := 9) (ls := [.ref 138, .ref 18, .ref pl, .ref l, .int p4, aD, aD, aD, aD]) (mcb_208 rfl) (by decide +kernel) rfl H
  unfold D_208
  replace H := pRun (ls' := [.ref 138, .ref 18, .ref pl, .ref l, .int p4, aD, aD, aD, aD]) (st' := [.ref 18, .ref 138]) 2 rfl H
  obtain ⟨rv, h1, hc, H⟩ := pCalV 207 1 138 (as := [.ref 18]) (rest := []) rfl (by decide) (by decide +kernel) rfl rfl H
  obtain ⟨v1, M1, hD, H⟩ := pUseK (D_207_ok hS hc) H
  refine pG_call (x := v1) (M1 := M1) hD ?_
  replace H := pRun (ls' := [.ref 138, .ref 18, .ref pl, .ref l, .int p4, .ref 143, aD, aD, aD]) (st' := [.int (kI (-1)), .ref 138]) 3 rfl H
  obtain ⟨M2, eM2, H⟩ := pPutN (j := 2) rfl H
  refine pG_put (M2 := M2) eM2 ?_
  replace H := pRun (ls' := [.ref 138, .ref 18, .ref pl, .ref l, .int p4, .ref 143, aD, aD, aD]) (st' := [.int (kI 0), .ref 138]) 2 rfl H
  obtain ⟨M3, eM3, H⟩ := pPutN (j := 3) rfl H
  refine pG_put (M2 := M3) eM3 ?_
  replace H := pRun (ls' := [.ref 138, .ref 18, .ref pl, .ref l, .int p4, .ref 143, .int (kI 0), aD, aD]) (st' := []) 2 rfl H
  obtain ⟨g0, _, H⟩ := pFall (mcb_208 rfl) H
  exact L_208_1_ok hS hpl hl  H
def l_208 (pl : Nat) (l : Nat) : List (Nat × Nat) := [(143, 0), (143, 1), (143, 2), (143, 3), (143, 4), (143, 5), (143, 6), (143, 7), (143, 8), (143, 9), (143, 10), (143, 11), (144, 999), (145, 999), (146, 999), (147, 999), (138, 2), (138, 3)]
theorem FC_208 {pl : Nat} {l : Nat} {p4 : Int32} (hpl : pK 3 pl = true) (hl : pK 2 l = true) : C_208 pl l p4 (fun _ M _ N => pFr (l_208 pl l) M N) := fun x6 M => show pTf (l_208 pl l) M (S_208_1 pl l p4 _ x6 M) from (tf_if (tf_ret pFr_refl) (tf_if (tf_ret pFr_refl) (tf_if (tf_gd fun g4 => (tf_gd fun g5 => (tf_call pFr_refl (fun _ _ h => F_138 (show pK 10 143 = true by decide +kernel) hl h) [6, 7, 8, 9, 10, 11, 15, 14, 2, 4, 5] rfl fun _ M1 f1 => (tf_if (tf_gd fun g7 => (tf_if (tf_jump f1) (tf_call f1 (fun _ _ h => F_230 (show pK 10 143 = true by decide +kernel) h) [] rfl fun _ M2 f2 => (tf_gd fun g9 => (tf_put f2 17 rfl fun M3 f3 => (tf_jump f3)))))) (tf_if (tf_gd fun g8 => (tf_if (tf_jump f1) (tf_call f1 (fun _ _ h => F_230 (show pK 10 143 = true by decide +kernel) h) [] rfl fun _ M2 f2 => (tf_gd fun g10 => (tf_put f2 17 rfl fun M3 f3 => (tf_jump f3)))))) (tf_put f1 16 rfl fun M2 f2 => (tf_gd fun g8 => (tf_if (tf_jump f2) (tf_call f2 (fun _ _ h => F_230 (show pK 10 143 = true by decide +kernel) h) [] rfl fun _ M3 f3 => (tf_gd fun g10 => (tf_put f3 17 rfl fun M4 f4 => (tf_jump f4)))))))))))) (tf_gd fun g4 => (tf_gd fun g5 => (tf_gd fun g6 => (tf_call pFr_refl (fun _ _ h => F_138 (show pK 10 143 = true by decide +kernel) hl h) [6, 7, 8, 9, 10, 11, 15, 14, 2, 4, 5] rfl fun _ M1 f1 => (tf_if (tf_gd fun g8 => (tf_if (tf_jump f1) (tf_call f1 (fun _ _ h => F_230 (show pK 10 143 = true by decide +kernel) h) [] rfl fun _ M2 f2 => (tf_gd fun g10 => (tf_put f2 17 rfl fun M3 f3 => (tf_jump f3)))))) (tf_if (tf_gd fun g9 => (tf_if (tf_jump f1) (tf_call f1 (fun _ _ h => F_230 (show pK 10 143 = true by decide +kernel) h) [] rfl fun _ M2 f2 => (tf_gd fun g11 => (tf_put f2 17 rfl fun M3 f3 => (tf_jump f3)))))) (tf_put f1 16 rfl fun M2 f2 => (tf_gd fun g9 => (tf_if (tf_jump f2) (tf_call f2 (fun _ _ h => F_230 (show pK 10 143 = true by decide +kernel) h) [] rfl fun _ M3 f3 => (tf_gd fun g11 => (tf_put f3 17 rfl fun M4 f4 => (tf_jump f4))))))))))))))))
theorem F_208 {pl : Nat} {l : Nat} {p4 : Int32} (hpl : pK 3 pl = true) (hl : pK 2 l = true) {M : pMem} {v : Unit} {N : pMem} (h : D_208 pl l p4 M v N) : pFr (l_208 pl l) M N :=
  (show pTf (l_208 pl l) M (D_208 pl l p4 M) from (tf_call pFr_refl (fun _ _ h => F_207 h) [0, 1, 2, 3, 4, 5, 6, 7, 8, 9, 10, 11, 12, 13, 14, 15] rfl fun _ M1 f1 => (tf_put f1 16 rfl fun M2 f2 => (tf_put f2 17 rfl fun M3 f3 => (tf_jumpL (fun _ M _ N => pFr (l_208 pl l) M N) (FC_208 hpl hl) rfl f3))))) v N h
/-- TwoCamps$Thought.daysTillFight(LTwoCamps$Told;LTwoCamps$Law;I)I -/
def S_209_1 (l : Nat) (p3 : Int32) (P1 : Int32 → pMem → pT Int32) (P4 : Int32 → pMem → pT Int32) (x5 : Int32) (M : pMem) : pT Int32 := tIf (p3 ≤ x5) (P4 (kI 1) M) (tCall (D_138 143 l (kI 0) (kI 0) (kI (-1)) M) fun v1 M1 => P1 (x5 + kI 1) M1)
def S_209_4 (l : Nat) (p3 : Int32) (P1 : Int32 → pMem → pT Int32) (P4 : Int32 → pMem → pT Int32) (x5 : Int32) (M : pMem) : pT Int32 := tIf ((kI 20) < x5) (tRet (kI (-1)) M) (tCall (D_138 143 l (kI 1) (kI 5) (kI (-1)) M) fun v1 M1 => tIf (v1 ≤ 0) (P4 (x5 + kI 1) M1) (tRet x5 M1))
def C_209 (l : Nat) (p3 : Int32) (P1 : Int32 → pMem → pT Int32) (P4 : Int32 → pMem → pT Int32) : Prop := (∀ (x5 : Int32) M v N, S_209_1 l p3 P1 P4 x5 M v N → P1 x5 M v N) ∧ (∀ (x5 : Int32) M v N, S_209_4 l p3 P1 P4 x5 M v N → P4 x5 M v N)
def L_209_1 (l : Nat) (p3 : Int32) (x5 : Int32) (M : pMem) : pT Int32 := fun v N => ∀ P : (Int32 → pMem → pT Int32) × (Int32 → pMem → pT Int32), C_209 l p3 P.1 P.2 → P.1 x5 M v N
def L_209_4 (l : Nat) (p3 : Int32) (x5 : Int32) (M : pMem) : pT Int32 := fun v N => ∀ P : (Int32 → pMem → pT Int32) × (Int32 → pMem → pT Int32), C_209 l p3 P.1 P.2 → P.2 x5 M v N
def D_209 (l : Nat) (p3 : Int32) (M : pMem) : pT Int32 := tCall (D_207 M) fun _ M1 => L_209_1 l p3 (kI 0) M1
theorem K_209 {X : aX} {F d : Nat} {K : Nat → aK} (hS : pS K) {l : Nat} {p3 : Int32} (hl : pK 2 l = true) {out : Option Value × aH} (P1 : Int32 → pMem → pT Int32) (P4 : Int32 → pMem → pT Int32) (hC : C_209 l p3 P1 P4) : ∀ f, (∀ (x5 : Int32) M, pm X F d 209 f 1 [.iload 5, .iload 3, .if_icmp .ge 3] [.ref 138, .ref 18, .ref l, .int p3, .ref 143, .int x5] [] (pH K M) out → pG eI K out (P1 x5 M)) ∧ (∀ (x5 : Int32) M, pm X F d 209 f 4 [.iload 5, .bipush 20, .if_icmp .gt 8] [.ref 138, .ref 18, .ref l, .int p3, .ref 143, .int x5] [] (pH K M) out → pG eI K out (P4 x5 M)) := by
  intro f
  induction f using Nat.strongRecOn with
  | _ f ih =>
    refine ⟨?_, ?_⟩
    · intro x5 M H
      refine pG_mono (fun v N h => hC.1 x5 M v N h) ?_
      unfold S_209_1
      replace H := pRun (ls' := [.ref 138, .ref 18, .ref l, .int p3, .ref 143, .int x5]) (st' := [.int p3, .int x5]) 2 rfl H
      rcases pIfc (n1 := 3) rfl (mcb_209 rfl) (mcb_209 rfl) H with ⟨g1, g0, _, H⟩ | ⟨g1, g0, _, H⟩
      · refine pG_pos (c := p3 ≤ x5) g1 ?_
        replace H := pRun (ls' := [.ref 138, .ref 18, .ref l, .int p3, .ref 143, .int (kI 1)]) (st' := []) 2 rfl H
        obtain ⟨g0, _, H⟩ := pFall (mcb_209 rfl) H
        exact (ih _ (by omega)).2 _  _ H
      · refine pG_neg (c := p3 ≤ x5) g1 ?_
        replace H := pRun (ls' := [.ref 138, .ref 18, .ref l, .int p3, .ref 143, .int x5]) (st' := [.ref 138]) 1 rfl H
        replace H := pGetR (r := 130) (pRf hS (by decide +kernel)) rfl H
        replace H := pRun (ls' := [.ref 138, .ref 18, .ref l, .int p3, .ref 143, .int x5]) (st' := [.int (kI (-1)), .int (kI 0), .int (kI 0), .ref l, .ref 143, .ref 130]) 5 rfl H
        obtain ⟨rv, h1, hc, H⟩ := pCalV 138 5 130 (as := [.ref 143, .ref l, .int (kI 0), .int (kI 0), .int (kI (-1))]) (rest := []) rfl (by decide) (by decide +kernel) rfl rfl H
        obtain ⟨v1, M1, hD, H⟩ := pUseI (D_138_ok hS (show pK 10 143 = true by decide +kernel) hl hc) H
        refine pG_call (x := v1) (M1 := M1) hD ?_
        replace H := pRun (ls' := [.ref 138, .ref 18, .ref l, .int p3, .ref 143, .int (x5 + kI 1)]) (st' := []) 2 rfl H
        obtain ⟨g0, _, H⟩ := pGo (n1 := 1) rfl (mcb_209 rfl) H
        exact (ih _ (by omega)).1 _  _ H
    · intro x5 M H
      refine pG_mono (fun v N h => hC.2 x5 M v N h) ?_
      unfold S_209_4
      replace H := pRun (ls' := [.ref 138, .ref 18, .ref l, .int p3, .ref 143, .int x5]) (st' := [.int (kI 20), .int x5]) 2 rfl H
      rcases pIfc (n1 := 8) rfl (mcb_209 rfl) (mcb_209 rfl) H with ⟨g1, g0, _, H⟩ | ⟨g1, g0, _, H⟩
      · refine pG_pos (c := (kI 20) < x5) g1 ?_
        replace H := pRun (ls' := [.ref 138, .ref 18, .ref l, .int p3, .ref 143, .int x5]) (st' := [.int (kI (-1))]) 1 rfl H
        exact pG_ret (pRetI H)
      · refine pG_neg (c := (kI 20) < x5) g1 ?_
        replace H := pRun (ls' := [.ref 138, .ref 18, .ref l, .int p3, .ref 143, .int x5]) (st' := [.ref 138]) 1 rfl H
        replace H := pGetR (r := 130) (pRf hS (by decide +kernel)) rfl H
        replace H := pRun (ls' := [.ref 138, .ref 18, .ref l, .int p3, .ref 143, .int x5]) (st' := [.int (kI (-1)), .int (kI 5), .int (kI 1), .ref l, .ref 143, .ref 130]) 5 rfl H
        obtain ⟨rv, h1, hc, H⟩ := pCalV 138 5 130 (as := [.ref 143, .ref l, .int (kI 1), .int (kI 5), .int (kI (-1))]) (rest := []) rfl (by decide) (by decide +kernel) rfl rfl H
        obtain ⟨v1, M1, hD, H⟩ := pUseI (D_138_ok hS (show pK 10 143 = true by decide +kernel) hl hc) H
        refine pG_call (x := v1) (M1 := M1) hD ?_
        rcases pIf0 (n1 := 7) rfl (mcb_209 rfl) (mcb_209 rfl) H with ⟨g2, g0, _, H⟩ | ⟨g2, g0, _, H⟩
        · refine pG_pos (c := v1 ≤ 0) g2 ?_
          replace H := pRun (ls' := [.ref 138, .ref 18, .ref l, .int p3, .ref 143, .int (x5 + kI 1)]) (st' := []) 1 rfl H
          obtain ⟨g0, _, H⟩ := pGo (n1 := 4) rfl (mcb_209 rfl) H
          exact (ih _ (by omega)).2 _  _ H
        · refine pG_neg (c := v1 ≤ 0) g2 ?_
          replace H := pRun (ls' := [.ref 138, .ref 18, .ref l, .int p3, .ref 143, .int x5]) (st' := [.int x5]) 1 rfl H
          exact pG_ret (pRetI H)
theorem L_209_1_ok {X : aX} {F d : Nat} {K : Nat → aK} (hS : pS K) {l : Nat} {p3 : Int32} (hl : pK 2 l = true) {out : Option Value × aH} {f : Nat} {x5 : Int32} {M : pMem} (H : pm X F d 209 f 1 [.iload 5, .iload 3, .if_icmp .ge 3] [.ref 138, .ref 18, .ref l, .int p3, .ref 143, .int x5] [] (pH K M) out) : pG eI K out (L_209_1 l p3 x5 M) := by
  refine pG_all (C := fun P : (Int32 → pMem → pT Int32) × (Int32 → pMem → pT Int32) => C_209 l p3 P.1 P.2) (T := fun P => P.1 x5 M) eI_inj ((fun _ _ _ _ => True), (fun _ _ _ _ => True)) ?_ (fun P hP => (K_209 hS hl P.1 P.2 hP f).1 _ _ H)
  exact ⟨(fun _ _ _ _ _ => trivial), (fun _ _ _ _ _ => trivial)⟩
theorem L_209_4_ok {X : aX} {F d : Nat} {K : Nat → aK} (hS : pS K) {l : Nat} {p3 : Int32} (hl : pK 2 l = true) {out : Option Value × aH} {f : Nat} {x5 : Int32} {M : pMem} (H : pm X F d 209 f 4 [.iload 5, .bipush 20, .if_icmp .gt 8] [.ref 138, .ref 18, .ref l, .int p3, .ref 143, .int x5] [] (pH K M) out) : pG eI K out (L_209_4 l p3 x5 M) := by
  refine pG_all (C := fun P : (Int32 → pMem → pT Int32) × (Int32 → pMem → pT Int32) => C_209 l p3 P.1 P.2) (T := fun P => P.2 x5 M) eI_inj ((fun _ _ _ _ => True), (fun _ _ _ _ => True)) ?_ (fun P hP => (K_209 hS hl P.1 P.2 hP f).2 _ _ H)
  exact ⟨(fun _ _ _ _ _ => trivial), (fun _ _ _ _ _ => trivial)⟩
theorem D_209_ok {X : aX} {F d : Nat} {K : Nat → aK} (hS : pS K) {l : Nat} {p3 : Int32} (hl : pK 2 l = true) {M : pMem} {out : Option Value × aH} (H : aM X F d 209 [.ref 138, .ref 18, .ref l, .int p3] (pH K M) = some out) : pG eI K out (D_209 l p3 M) := by
  obtain ⟨d', g0, _, H⟩ := pEnt (n := 6) (ls := [.ref 138, .ref 18, .ref l, .int p3, aD, aD]) (mcb_209 rfl) (by decide +kernel) rfl H
  unfold D_209
  replace H := pRun (ls' := [.ref 138, .ref 18, .ref l, .int p3, aD, aD]) (st' := [.ref 18, .ref 138]) 2 rfl H
  obtain ⟨rv, h1, hc, H⟩ := pCalV 207 1 138 (as := [.ref 18]) (rest := []) rfl (by decide) (by decide +kernel) rfl rfl H
  obtain ⟨v1, M1, hD, H⟩ := pUseK (D_207_ok hS hc) H
  refine pG_call (x := v1) (M1 := M1) hD ?_
  replace H := pRun (ls' := [.ref 138, .ref 18, .ref l, .int p3, .ref 143, .int (kI 0)]) (st' := []) 3 rfl H
  obtain ⟨g0, _, H⟩ := pFall (mcb_209 rfl) H
  exact L_209_1_ok hS hl  H
def l_209 (l : Nat) : List (Nat × Nat) := [(143, 0), (143, 1), (143, 2), (143, 3), (143, 4), (143, 5), (143, 6), (143, 7), (143, 8), (143, 9), (143, 10), (143, 11), (144, 999), (145, 999), (146, 999), (147, 999)]
theorem FC_209 {l : Nat} {p3 : Int32} (hl : pK 2 l = true) : C_209 l p3 (fun _ M _ N => pFr (l_209 l) M N) (fun _ M _ N => pFr (l_209 l) M N) := ⟨fun x5 M => show pTf (l_209 l) M (S_209_1 l p3 _ _ x5 M) from (tf_if (tf_jump pFr_refl) (tf_call pFr_refl (fun _ _ h => F_138 (show pK 10 143 = true by decide +kernel) hl h) [6, 7, 8, 9, 10, 11, 15, 14, 2, 4, 5] rfl fun _ M1 f1 => (tf_jump f1))), fun x5 M => show pTf (l_209 l) M (S_209_4 l p3 _ _ x5 M) from (tf_if (tf_ret pFr_refl) (tf_call pFr_refl (fun _ _ h => F_138 (show pK 10 143 = true by decide +kernel) hl h) [6, 7, 8, 9, 10, 11, 15, 14, 2, 4, 5] rfl fun _ M1 f1 => (tf_if (tf_jump f1) (tf_ret f1))))⟩
theorem F_209 {l : Nat} {p3 : Int32} (hl : pK 2 l = true) {M : pMem} {v : Int32} {N : pMem} (h : D_209 l p3 M v N) : pFr (l_209 l) M N :=
  (show pTf (l_209 l) M (D_209 l p3 M) from (tf_call pFr_refl (fun _ _ h => F_207 h) [0, 1, 2, 3, 4, 5, 6, 7, 8, 9, 10, 11, 12, 13, 14, 15] rfl fun _ M1 f1 => (tf_jumpL (fun _ M _ N => pFr (l_209 l) M N, fun _ M _ N => pFr (l_209 l) M N) (FC_209 hl) rfl f1))) v N h
/-- TwoCamps$Thought.daysTillPeace(LTwoCamps$Told;LTwoCamps$Law;)I -/
def S_210_1 (l : Nat) (P1 : Int32 → pMem → pT Int32) (x4 : Int32) (M : pMem) : pT Int32 := tIf ((kI 30) ≤ x4) (tCall (D_230 143 M) fun v1 M1 => tIf (0 ≤ v1) (tRet ((M1 143 4) - (M1 19 4)) M1) (tRet (kI (-1)) M1)) (tCall (D_230 143 M) fun v1 M1 => tIf (0 ≤ v1) (tCall (D_230 143 M1) fun v2 M2 => tIf (0 ≤ v2) (tRet ((M2 143 4) - (M2 19 4)) M2) (tRet (kI (-1)) M2)) (tCall (D_138 143 l (kI 3) (kI 0) (kI (-1)) M1) fun v2 M2 => P1 (x4 + kI 1) M2))
def C_210 (l : Nat) (P1 : Int32 → pMem → pT Int32) : Prop := (∀ (x4 : Int32) M v N, S_210_1 l P1 x4 M v N → P1 x4 M v N)
def L_210_1 (l : Nat) (x4 : Int32) (M : pMem) : pT Int32 := fun v N => ∀ P : (Int32 → pMem → pT Int32), C_210 l P → P x4 M v N
def D_210 (l : Nat) (M : pMem) : pT Int32 := tCall (D_207 M) fun _ M1 => L_210_1 l (kI 0) M1
theorem K_210 {X : aX} {F d : Nat} {K : Nat → aK} (hS : pS K) {l : Nat} (hl : pK 2 l = true) {out : Option Value × aH} (P1 : Int32 → pMem → pT Int32) (hC : C_210 l P1) : ∀ f, (∀ (x4 : Int32) M, pm X F d 210 f 1 [.iload 4, .bipush 30, .if_icmp .ge 4] [.ref 138, .ref 18, .ref l, .ref 143, .int x4] [] (pH K M) out → pG eI K out (P1 x4 M)) := by
  intro f
  induction f using Nat.strongRecOn with
  | _ f ih =>
    intro x4 M H
    refine pG_mono (fun v N h => hC x4 M v N h) ?_
    unfold S_210_1
    replace H := pRun (ls' := [.ref 138, .ref 18, .ref l, .ref 143, .int x4]) (st' := [.int (kI 30), .int x4]) 2 rfl H
    rcases pIfc (n1 := 4) rfl (mcb_210 rfl) (mcb_210 rfl) H with ⟨g1, g0, _, H⟩ | ⟨g1, g0, _, H⟩
    · refine pG_pos (c := (kI 30) ≤ x4) g1 ?_
      replace H := pRun (ls' := [.ref 138, .ref 18, .ref l, .ref 143, .int x4]) (st' := [.ref 143]) 1 rfl H
      obtain ⟨rv, h1, hc, H⟩ := pCalV 230 0 143 (as := []) (rest := []) rfl (by decide) (by decide +kernel) rfl rfl H
      obtain ⟨v1, M1, hD, H⟩ := pUseI (D_230_ok hS (show pK 10 143 = true by decide +kernel) hc) H
      refine pG_call (x := v1) (M1 := M1) hD ?_
      rcases pIf0 (n1 := 6) rfl (mcb_210 rfl) (mcb_210 rfl) H with ⟨g2, g0, _, H⟩ | ⟨g2, g0, _, H⟩
      · refine pG_pos (c := 0 ≤ v1) g2 ?_
        replace H := pRun (ls' := [.ref 138, .ref 18, .ref l, .ref 143, .int x4]) (st' := [.ref 143]) 1 rfl H
        replace H := pGetN (v := M1 143 4) rfl (by decide) H
        replace H := pRun (ls' := [.ref 138, .ref 18, .ref l, .ref 143, .int x4]) (st' := [.ref 18, .int (M1 143 4)]) 1 rfl H
        replace H := pGetR (r := 19) (pRf hS (by decide +kernel)) rfl H
        replace H := pGetN (v := M1 19 4) rfl (by decide) H
        replace H := pRun (ls' := [.ref 138, .ref 18, .ref l, .ref 143, .int x4]) (st' := [.int ((M1 143 4) - (M1 19 4))]) 1 rfl H
        obtain ⟨g0, _, H⟩ := pFall (mcb_210 rfl) H
        exact pG_ret (pRetI H)
      · refine pG_neg (c := 0 ≤ v1) g2 ?_
        replace H := pRun (ls' := [.ref 138, .ref 18, .ref l, .ref 143, .int x4]) (st' := [.int (kI (-1))]) 1 rfl H
        obtain ⟨g0, _, H⟩ := pGo (n1 := 7) rfl (mcb_210 rfl) H
        exact pG_ret (pRetI H)
    · refine pG_neg (c := (kI 30) ≤ x4) g1 ?_
      replace H := pRun (ls' := [.ref 138, .ref 18, .ref l, .ref 143, .int x4]) (st' := [.ref 143]) 1 rfl H
      obtain ⟨rv, h1, hc, H⟩ := pCalV 230 0 143 (as := []) (rest := []) rfl (by decide) (by decide +kernel) rfl rfl H
      obtain ⟨v1, M1, hD, H⟩ := pUseI (D_230_ok hS (show pK 10 143 = true by decide +kernel) hc) H
      refine pG_call (x := v1) (M1 := M1) hD ?_
      rcases pIf0 (n1 := 4) rfl (mcb_210 rfl) (mcb_210 rfl) H with ⟨g2, g0, _, H⟩ | ⟨g2, g0, _, H⟩
      · refine pG_pos (c := 0 ≤ v1) g2 ?_
        replace H := pRun (ls' := [.ref 138, .ref 18, .ref l, .ref 143, .int x4]) (st' := [.ref 143]) 1 rfl H
        obtain ⟨rv, h1, hc, H⟩ := pCalV 230 0 143 (as := []) (rest := []) rfl (by decide) (by decide +kernel) rfl rfl H
        obtain ⟨v2, M2, hD, H⟩ := pUseI (D_230_ok hS (show pK 10 143 = true by decide +kernel) hc) H
        refine pG_call (x := v2) (M1 := M2) hD ?_
        rcases pIf0 (n1 := 6) rfl (mcb_210 rfl) (mcb_210 rfl) H with ⟨g3, g0, _, H⟩ | ⟨g3, g0, _, H⟩
        · refine pG_pos (c := 0 ≤ v2) g3 ?_
          replace H := pRun (ls' := [.ref 138, .ref 18, .ref l, .ref 143, .int x4]) (st' := [.ref 143]) 1 rfl H
          replace H := pGetN (v := M2 143 4) rfl (by decide) H
          replace H := pRun (ls' := [.ref 138, .ref 18, .ref l, .ref 143, .int x4]) (st' := [.ref 18, .int (M2 143 4)]) 1 rfl H
          replace H := pGetR (r := 19) (pRf hS (by decide +kernel)) rfl H
          replace H := pGetN (v := M2 19 4) rfl (by decide) H
          replace H := pRun (ls' := [.ref 138, .ref 18, .ref l, .ref 143, .int x4]) (st' := [.int ((M2 143 4) - (M2 19 4))]) 1 rfl H
          obtain ⟨g0, _, H⟩ := pFall (mcb_210 rfl) H
          exact pG_ret (pRetI H)
        · refine pG_neg (c := 0 ≤ v2) g3 ?_
          replace H := pRun (ls' := [.ref 138, .ref 18, .ref l, .ref 143, .int x4]) (st' := [.int (kI (-1))]) 1 rfl H
          obtain ⟨g0, _, H⟩ := pGo (n1 := 7) rfl (mcb_210 rfl) H
          exact pG_ret (pRetI H)
      · refine pG_neg (c := 0 ≤ v1) g2 ?_
        replace H := pRun (ls' := [.ref 138, .ref 18, .ref l, .ref 143, .int x4]) (st' := [.ref 138]) 1 rfl H
        replace H := pGetR (r := 130) (pRf hS (by decide +kernel)) rfl H
        replace H := pRun (ls' := [.ref 138, .ref 18, .ref l, .ref 143, .int x4]) (st' := [.int (kI (-1)), .int (kI 0), .int (kI 3), .ref l, .ref 143, .ref 130]) 5 rfl H
        obtain ⟨rv, h1, hc, H⟩ := pCalV 138 5 130 (as := [.ref 143, .ref l, .int (kI 3), .int (kI 0), .int (kI (-1))]) (rest := []) rfl (by decide) (by decide +kernel) rfl rfl H
        obtain ⟨v2, M2, hD, H⟩ := pUseI (D_138_ok hS (show pK 10 143 = true by decide +kernel) hl hc) H
        refine pG_call (x := v2) (M1 := M2) hD ?_
        replace H := pRun (ls' := [.ref 138, .ref 18, .ref l, .ref 143, .int (x4 + kI 1)]) (st' := []) 2 rfl H
        obtain ⟨g0, _, H⟩ := pGo (n1 := 1) rfl (mcb_210 rfl) H
        exact (ih _ (by omega)) _  _ H
theorem L_210_1_ok {X : aX} {F d : Nat} {K : Nat → aK} (hS : pS K) {l : Nat} (hl : pK 2 l = true) {out : Option Value × aH} {f : Nat} {x4 : Int32} {M : pMem} (H : pm X F d 210 f 1 [.iload 4, .bipush 30, .if_icmp .ge 4] [.ref 138, .ref 18, .ref l, .ref 143, .int x4] [] (pH K M) out) : pG eI K out (L_210_1 l x4 M) := by
  refine pG_all (C := fun P : (Int32 → pMem → pT Int32) => C_210 l P) (T := fun P => P x4 M) eI_inj (fun _ _ _ _ => True) ?_ (fun P hP => (K_210 hS hl P hP f) _ _ H)
  exact (fun _ _ _ _ _ => trivial)
theorem D_210_ok {X : aX} {F d : Nat} {K : Nat → aK} (hS : pS K) {l : Nat} (hl : pK 2 l = true) {M : pMem} {out : Option Value × aH} (H : aM X F d 210 [.ref 138, .ref 18, .ref l] (pH K M) = some out) : pG eI K out (D_210 l M) := by
  obtain ⟨d', g0, _, H⟩ := pEnt (n := 5) (ls := [.ref 138, .ref 18, .ref l, aD, aD]) (mcb_210 rfl) (by decide +kernel) rfl H
  unfold D_210
  replace H := pRun (ls' := [.ref 138, .ref 18, .ref l, aD, aD]) (st' := [.ref 18, .ref 138]) 2 rfl H
  obtain ⟨rv, h1, hc, H⟩ := pCalV 207 1 138 (as := [.ref 18]) (rest := []) rfl (by decide) (by decide +kernel) rfl rfl H
  obtain ⟨v1, M1, hD, H⟩ := pUseK (D_207_ok hS hc) H
  refine pG_call (x := v1) (M1 := M1) hD ?_
  replace H := pRun (ls' := [.ref 138, .ref 18, .ref l, .ref 143, .int (kI 0)]) (st' := []) 3 rfl H
  obtain ⟨g0, _, H⟩ := pFall (mcb_210 rfl) H
  exact L_210_1_ok hS hl  H
def l_210 (l : Nat) : List (Nat × Nat) := [(143, 0), (143, 1), (143, 2), (143, 3), (143, 4), (143, 5), (143, 6), (143, 7), (143, 8), (143, 9), (143, 10), (143, 11), (144, 999), (145, 999), (146, 999), (147, 999)]
theorem FC_210 {l : Nat} (hl : pK 2 l = true) : C_210 l (fun _ M _ N => pFr (l_210 l) M N) := fun x4 M => show pTf (l_210 l) M (S_210_1 l _ x4 M) from (tf_if (tf_call pFr_refl (fun _ _ h => F_230 (show pK 10 143 = true by decide +kernel) h) [] rfl fun _ M1 f1 => (tf_if (tf_ret f1) (tf_ret f1))) (tf_call pFr_refl (fun _ _ h => F_230 (show pK 10 143 = true by decide +kernel) h) [] rfl fun _ M1 f1 => (tf_if (tf_call f1 (fun _ _ h => F_230 (show pK 10 143 = true by decide +kernel) h) [] rfl fun _ M2 f2 => (tf_if (tf_ret f2) (tf_ret f2))) (tf_call f1 (fun _ _ h => F_138 (show pK 10 143 = true by decide +kernel) hl h) [6, 7, 8, 9, 10, 11, 15, 14, 2, 4, 5] rfl fun _ M2 f2 => (tf_jump f2)))))
theorem F_210 {l : Nat} (hl : pK 2 l = true) {M : pMem} {v : Int32} {N : pMem} (h : D_210 l M v N) : pFr (l_210 l) M N :=
  (show pTf (l_210 l) M (D_210 l M) from (tf_call pFr_refl (fun _ _ h => F_207 h) [0, 1, 2, 3, 4, 5, 6, 7, 8, 9, 10, 11, 12, 13, 14, 15] rfl fun _ M1 f1 => (tf_jumpL (fun _ M _ N => pFr (l_210 l) M N) (FC_210 hl) rfl f1))) v N h
/-- TwoCamps$Thought.beginOrders(LTwoCamps$Told;)V -/
def D_211 (M : pMem) : pT Unit := tCall (D_207 M) fun _ M1 => tPut (aPut M1 138 7 (kI 0)) fun M2 => tPut (aPut M2 138 9 (kI 0)) fun M3 => tPut (aPut M3 138 8 (kI (-1))) fun M4 => tRet () M4
theorem D_211_ok {X : aX} {F d : Nat} {K : Nat → aK} (hS : pS K) {M : pMem} {out : Option Value × aH} (H : aM X F d 211 [.ref 138, .ref 18] (pH K M) = some out) : pG eU K out (D_211 M) := by
  obtain ⟨d', g0, _, H⟩ := pEnt (n := 2) (ls := [.ref 138, .ref 18]) (mcb_211 rfl) (by decide +kernel) rfl H
  unfold D_211
  replace H := pRun (ls' := [.ref 138, .ref 18]) (st' := [.ref 18, .ref 138]) 2 rfl H
  obtain ⟨rv, h1, hc, H⟩ := pCalV 207 1 138 (as := [.ref 18]) (rest := []) rfl (by decide) (by decide +kernel) rfl rfl H
  obtain ⟨v1, M1, hD, H⟩ := pUseK (D_207_ok hS hc) H
  refine pG_call (x := v1) (M1 := M1) hD ?_
  replace H := pRun (ls' := [.ref 138, .ref 18]) (st' := [.int (kI 0), .ref 138]) 3 rfl H
  obtain ⟨M2, eM2, H⟩ := pPutN (j := 7) rfl H
  refine pG_put (M2 := M2) eM2 ?_
  replace H := pRun (ls' := [.ref 138, .ref 18]) (st' := [.int (kI 0), .ref 138]) 2 rfl H
  obtain ⟨M3, eM3, H⟩ := pPutN (j := 9) rfl H
  refine pG_put (M2 := M3) eM3 ?_
  replace H := pRun (ls' := [.ref 138, .ref 18]) (st' := [.int (kI (-1)), .ref 138]) 2 rfl H
  obtain ⟨M4, eM4, H⟩ := pPutN (j := 8) rfl H
  refine pG_put (M2 := M4) eM4 ?_
  exact pG_ret (pRetU H)
def l_211 : List (Nat × Nat) := [(143, 0), (143, 1), (143, 2), (143, 3), (143, 4), (143, 5), (143, 6), (143, 7), (143, 8), (143, 9), (143, 10), (143, 11), (144, 999), (145, 999), (146, 999), (147, 999), (138, 7), (138, 9), (138, 8)]
theorem F_211 {M : pMem} {v : Unit} {N : pMem} (h : D_211 M v N) : pFr (l_211) M N :=
  (show pTf (l_211) M (D_211 M) from (tf_call pFr_refl (fun _ _ h => F_207 h) [0, 1, 2, 3, 4, 5, 6, 7, 8, 9, 10, 11, 12, 13, 14, 15] rfl fun _ M1 f1 => (tf_put f1 16 rfl fun M2 f2 => (tf_put f2 17 rfl fun M3 f3 => (tf_put f3 18 rfl fun M4 f4 => (tf_ret f4)))))) v N h
/-- TwoCamps$Thought.beginSecond()V -/
def D_212 (M : pMem) : pT Unit := tPut (aPut M 138 7 (kI 0)) fun M1 => tPut (aPut M1 138 9 (kI 1)) fun M2 => tRet () M2
theorem D_212_ok {X : aX} {F d : Nat} {K : Nat → aK} (hS : pS K) {M : pMem} {out : Option Value × aH} (H : aM X F d 212 [.ref 138] (pH K M) = some out) : pG eU K out (D_212 M) := by
  obtain ⟨d', g0, _, H⟩ := pEnt (n := 1) (ls := [.ref 138]) (mcb_212 rfl) (by decide +kernel) rfl H
  unfold D_212
  replace H := pRun (ls' := [.ref 138]) (st' := [.int (kI 0), .ref 138]) 2 rfl H
  obtain ⟨M1, eM1, H⟩ := pPutN (j := 7) rfl H
  refine pG_put (M2 := M1) eM1 ?_
  replace H := pRun (ls' := [.ref 138]) (st' := [.int (kI 1), .ref 138]) 2 rfl H
  obtain ⟨M2, eM2, H⟩ := pPutN (j := 9) rfl H
  refine pG_put (M2 := M2) eM2 ?_
  exact pG_ret (pRetU H)
def l_212 : List (Nat × Nat) := [(138, 7), (138, 9)]
theorem F_212 {M : pMem} {v : Unit} {N : pMem} (h : D_212 M v N) : pFr (l_212) M N :=
  (show pTf (l_212) M (D_212 M) from (tf_put pFr_refl 0 rfl fun M1 f1 => (tf_put f1 1 rfl fun M2 f2 => (tf_ret f2)))) v N h
/-- TwoCamps$Thought.arrive(I)V -/
def D_214 (p1 : Int32) (M : pMem) : pT Unit := tIf ((M 138 7) < 0) (tRet () M) (tIf ((M 138 7) < (kI 120)) (tIf (¬ (M 138 9) = 0) (tGd (pIn (M 138 7) 120) <| tIf ((pAbs ((M 142 (ix (M 138 7))) - p1)) ≤ (M 138 8)) (tPut (aPut M 138 7 ((M 138 7) + (kI 1))) fun M1 => tRet () M1) (tGd (pIn (M 138 7) 120) <| tPut (aPut M 138 8 (pAbs ((M 142 (ix (M 138 7))) - p1))) fun M1 => tPut (aRow M1 141 (va_cpy (M1 140) (M1 141) (ix (kI 0)) (ix (kI 0)) (ix (kI 5)))) fun M2 => tPut (aPut M2 138 7 ((M2 138 7) + (kI 1))) fun M3 => tRet () M3)) (tGd (pIn (M 138 7) 120) <| tPut (aPut M 142 (ix (M 138 7)) p1) fun M1 => tPut (aPut M1 138 7 ((M1 138 7) + (kI 1))) fun M2 => tRet () M2)) (tRet () M))
theorem D_214_ok {X : aX} {F d : Nat} {K : Nat → aK} (hS : pS K) {p1 : Int32} {M : pMem} {out : Option Value × aH} (H : aM X F d 214 [.ref 138, .int p1] (pH K M) = some out) : pG eU K out (D_214 p1 M) := by
  obtain ⟨d', g0, _, H⟩ := pEnt (n := 2) (ls := [.ref 138, .int p1]) (mcb_214 rfl) (by decide +kernel) rfl H
  unfold D_214
  replace H := pRun (ls' := [.ref 138, .int p1]) (st' := [.ref 138]) 1 rfl H
  replace H := pGetN (v := M 138 7) rfl (by decide) H
  rcases pIf0 (n1 := 2) rfl (mcb_214 rfl) (mcb_214 rfl) H with ⟨g1, g0, _, H⟩ | ⟨g1, g0, _, H⟩
  · refine pG_pos (c := (M 138 7) < 0) g1 ?_
    exact pG_ret (pRetU H)
  · refine pG_neg (c := (M 138 7) < 0) g1 ?_
    replace H := pRun (ls' := [.ref 138, .int p1]) (st' := [.ref 138]) 1 rfl H
    replace H := pGetN (v := M 138 7) rfl (by decide) H
    replace H := pRun (ls' := [.ref 138, .int p1]) (st' := [.int (kI 120), .int (M 138 7)]) 1 rfl H
    rcases pIfc (n1 := 3) rfl (mcb_214 rfl) (mcb_214 rfl) H with ⟨g2, g0, _, H⟩ | ⟨g2, g0, _, H⟩
    · refine pG_pos (c := (M 138 7) < (kI 120)) g2 ?_
      replace H := pRun (ls' := [.ref 138, .int p1]) (st' := [.ref 138]) 1 rfl H
      replace H := pGetN (v := M 138 9) rfl (by decide) H
      rcases pIf0 (n1 := 5) rfl (mcb_214 rfl) (mcb_214 rfl) H with ⟨g3, g0, _, H⟩ | ⟨g3, g0, _, H⟩
      · refine pG_pos (c := ¬ (M 138 9) = 0) g3 ?_
        replace H := pRun (ls' := [.ref 138, .int p1]) (st' := [.ref 138]) 1 rfl H
        replace H := pGetR (r := 142) (pRf hS (by decide +kernel)) rfl H
        replace H := pRun (ls' := [.ref 138, .int p1]) (st' := [.ref 138, .ref 142]) 1 rfl H
        replace H := pGetN (v := M 138 7) rfl (by decide) H
        obtain ⟨g4, H⟩ := pIld (n := 120) (pLt (show pCa 142 120 = true by decide +kernel)) (pLn hS (show pCa 142 120 = true by decide +kernel)) H
        refine pG_gd g4 ?_
        replace H := pRun (ls' := [.ref 138, .int p1]) (st' := [.int ((M 142 (ix (M 138 7))) - p1)]) 2 rfl H
        replace H := pAbsI rfl H
        replace H := pRun (ls' := [.ref 138, .int p1]) (st' := [.ref 138, .int (pAbs ((M 142 (ix (M 138 7))) - p1))]) 1 rfl H
        replace H := pGetN (v := M 138 8) rfl (by decide) H
        rcases pIfc (n1 := 7) rfl (mcb_214 rfl) (mcb_214 rfl) H with ⟨g5, g0, _, H⟩ | ⟨g5, g0, _, H⟩
        · refine pG_pos (c := (pAbs ((M 142 (ix (M 138 7))) - p1)) ≤ (M 138 8)) g5 ?_
          replace H := pRun (ls' := [.ref 138, .int p1]) (st' := [.ref 138, .ref 138]) 2 rfl H
          replace H := pGetN (v := M 138 7) rfl (by decide) H
          replace H := pRun (ls' := [.ref 138, .int p1]) (st' := [.int ((M 138 7) + (kI 1)), .ref 138]) 2 rfl H
          obtain ⟨M1, eM1, H⟩ := pPutN (j := 7) rfl H
          refine pG_put (M2 := M1) eM1 ?_
          exact pG_ret (pRetU H)
        · refine pG_neg (c := (pAbs ((M 142 (ix (M 138 7))) - p1)) ≤ (M 138 8)) g5 ?_
          replace H := pRun (ls' := [.ref 138, .int p1]) (st' := [.ref 138, .ref 138]) 2 rfl H
          replace H := pGetR (r := 142) (pRf hS (by decide +kernel)) rfl H
          replace H := pRun (ls' := [.ref 138, .int p1]) (st' := [.ref 138, .ref 142, .ref 138]) 1 rfl H
          replace H := pGetN (v := M 138 7) rfl (by decide) H
          obtain ⟨g6, H⟩ := pIld (n := 120) (pLt (show pCa 142 120 = true by decide +kernel)) (pLn hS (show pCa 142 120 = true by decide +kernel)) H
          refine pG_gd g6 ?_
          replace H := pRun (ls' := [.ref 138, .int p1]) (st' := [.int ((M 142 (ix (M 138 7))) - p1), .ref 138]) 2 rfl H
          replace H := pAbsI rfl H
          obtain ⟨M1, eM1, H⟩ := pPutN (j := 8) rfl H
          refine pG_put (M2 := M1) eM1 ?_
          replace H := pRun (ls' := [.ref 138, .int p1]) (st' := [.ref 138]) 1 rfl H
          replace H := pGetR (r := 140) (pRf hS (by decide +kernel)) rfl H
          replace H := pRun (ls' := [.ref 138, .int p1]) (st' := [.ref 138, .int (kI 0), .ref 140]) 2 rfl H
          replace H := pGetR (r := 141) (pRf hS (by decide +kernel)) rfl H
          replace H := pRun (ls' := [.ref 138, .int p1]) (st' := [.int (kI 5), .int (kI 0), .ref 141, .int (kI 0), .ref 140]) 2 rfl H
          obtain ⟨M2, eM2, H⟩ := pCpy rfl H
          refine pG_put (M2 := M2) eM2 ?_
          obtain ⟨g0, _, H⟩ := pFall (mcb_214 rfl) H
          replace H := pRun (ls' := [.ref 138, .int p1]) (st' := [.ref 138, .ref 138]) 2 rfl H
          replace H := pGetN (v := M2 138 7) rfl (by decide) H
          replace H := pRun (ls' := [.ref 138, .int p1]) (st' := [.int ((M2 138 7) + (kI 1)), .ref 138]) 2 rfl H
          obtain ⟨M3, eM3, H⟩ := pPutN (j := 7) rfl H
          refine pG_put (M2 := M3) eM3 ?_
          exact pG_ret (pRetU H)
      · refine pG_neg (c := ¬ (M 138 9) = 0) g3 ?_
        replace H := pRun (ls' := [.ref 138, .int p1]) (st' := [.ref 138]) 1 rfl H
        replace H := pGetR (r := 142) (pRf hS (by decide +kernel)) rfl H
        replace H := pRun (ls' := [.ref 138, .int p1]) (st' := [.ref 138, .ref 142]) 1 rfl H
        replace H := pGetN (v := M 138 7) rfl (by decide) H
        replace H := pRun (ls' := [.ref 138, .int p1]) (st' := [.int p1, .int (M 138 7), .ref 142]) 1 rfl H
        obtain ⟨g4, M1, eM1, H⟩ := pIst (n := 120) (pLn hS (show pCa 142 120 = true by decide +kernel)) H
        refine pG_gd g4 (pG_put (M2 := M1) eM1 ?_)
        obtain ⟨g0, _, H⟩ := pGo (n1 := 7) rfl (mcb_214 rfl) H
        replace H := pRun (ls' := [.ref 138, .int p1]) (st' := [.ref 138, .ref 138]) 2 rfl H
        replace H := pGetN (v := M1 138 7) rfl (by decide) H
        replace H := pRun (ls' := [.ref 138, .int p1]) (st' := [.int ((M1 138 7) + (kI 1)), .ref 138]) 2 rfl H
        obtain ⟨M2, eM2, H⟩ := pPutN (j := 7) rfl H
        refine pG_put (M2 := M2) eM2 ?_
        exact pG_ret (pRetU H)
    · refine pG_neg (c := (M 138 7) < (kI 120)) g2 ?_
      exact pG_ret (pRetU H)
def l_214 : List (Nat × Nat) := [(138, 7), (138, 8), (141, 999), (142, 999)]
theorem F_214 {p1 : Int32} {M : pMem} {v : Unit} {N : pMem} (h : D_214 p1 M v N) : pFr (l_214) M N :=
  (show pTf (l_214) M (D_214 p1 M) from (tf_if (tf_ret pFr_refl) (tf_if (tf_if (tf_gd fun g4 => (tf_if (tf_put pFr_refl 0 rfl fun M1 f1 => (tf_ret f1)) (tf_gd fun g6 => (tf_put pFr_refl 1 rfl fun M1 f1 => (tf_row f1 2 rfl fun M2 f2 => (tf_put f2 0 rfl fun M3 f3 => (tf_ret f3))))))) (tf_gd fun g4 => (tf_putA pFr_refl 3 rfl fun M1 f1 => (tf_put f1 0 rfl fun M2 f2 => (tf_ret f2))))) (tf_ret pFr_refl)))) v N h
def S_213_e (E213 : Nat → Int32 → Int32 → pMem → pT Unit) (P213_4 : Nat → Int32 → Int32 → Int32 → pMem → pT Unit) (l : Nat) (p3 : Int32) (p4 : Int32) (M : pMem) : pT Unit := tIf ((M 18 8) ≤ p3) (tGd (pIn p3 6) <| tCall (D_230 (143 + 5 * ix p3) M) fun v1 M1 => tCall (D_214 v1 M1) fun _ M2 => tRet () M2) (tIf (p3 < (kI 5)) (P213_4 l p3 p4 (kI 0) M) (tGd (pIn p3 6) <| tCall (D_230 (143 + 5 * ix p3) M) fun v1 M1 => tCall (D_214 v1 M1) fun _ M2 => tRet () M2))
def S_213_4 (E213 : Nat → Int32 → Int32 → pMem → pT Unit) (P213_4 : Nat → Int32 → Int32 → Int32 → pMem → pT Unit) (l : Nat) (p3 : Int32) (p4 : Int32) (x5 : Int32) (M : pMem) : pT Unit := tIf ((M 18 8) ≤ x5) (tRet () M) (tIf (¬ (f_37 p4 x5) = 0) (P213_4 l p3 p4 (x5 + kI 1) M) (tGd (pIn (p3 + (kI 1)) 6) <| tGd (pIn p3 6) <| tCall (D_220 (143 + 5 * ix (p3 + (kI 1))) (143 + 5 * ix p3) M) fun _ M1 => tGd (pIn x5 5) <| tIf ((kI 60) ≤ (M1 (143 + 5 * ix (p3 + (kI 1))) 4)) (tGd (pIn p3 5) <| tPut (aPut M1 140 (ix p3) x5) fun M2 => tCall (E213 l (p3 + (kI 1)) (p4 ||| ((kI 1) <<< (x5 &&& 31))) M2) fun _ M3 => P213_4 l p3 p4 (x5 + kI 1) M3) (tIf (¬ (M1 27 (ix x5)) = (kI 1)) (tCall (D_138 (143 + 5 * ix (p3 + (kI 1))) l (M1 27 (ix x5)) (kI 0) (kI (-1)) M1) fun v2 M2 => tGd (pIn p3 5) <| tPut (aPut M2 140 (ix p3) x5) fun M3 => tCall (E213 l (p3 + (kI 1)) (p4 ||| ((kI 1) <<< (x5 &&& 31))) M3) fun _ M4 => P213_4 l p3 p4 (x5 + kI 1) M4) (tCall (D_138 (143 + 5 * ix (p3 + (kI 1))) l (M1 27 (ix x5)) (kI 5) (kI (-1)) M1) fun v2 M2 => tGd (pIn p3 5) <| tPut (aPut M2 140 (ix p3) x5) fun M3 => tCall (E213 l (p3 + (kI 1)) (p4 ||| ((kI 1) <<< (x5 &&& 31))) M3) fun _ M4 => P213_4 l p3 p4 (x5 + kI 1) M4))))
def C_213 (E213 : Nat → Int32 → Int32 → pMem → pT Unit) (P213_4 : Nat → Int32 → Int32 → Int32 → pMem → pT Unit) : Prop := (∀ (l : Nat) (p3 : Int32) (p4 : Int32) M v N, S_213_e E213 P213_4 l p3 p4 M v N → E213 l p3 p4 M v N) ∧ (∀ (l : Nat) (p3 : Int32) (p4 : Int32) (x5 : Int32) M v N, S_213_4 E213 P213_4 l p3 p4 x5 M v N → P213_4 l p3 p4 x5 M v N)
def D_213 (l : Nat) (p3 : Int32) (p4 : Int32) (M : pMem) : pT Unit := fun v N => ∀ P : (Nat → Int32 → Int32 → pMem → pT Unit) × (Nat → Int32 → Int32 → Int32 → pMem → pT Unit), C_213 P.1 P.2 → P.1 l p3 p4 M v N
theorem K_213 {X : aX} {F d : Nat} {K : Nat → aK} (hS : pS K) (E213 : Nat → Int32 → Int32 → pMem → pT Unit) (P213_4 : Nat → Int32 → Int32 → Int32 → pMem → pT Unit) (hC : C_213 E213 P213_4) (hE213 : (∀ (l : Nat) (p3 : Int32) (p4 : Int32) (hl : pK 2 l = true) M out, aM X F d 213 [.ref 138, .ref 18, .ref l, .int p3, .int p4] (pH K M) = some out → pG eU K out (E213 l p3 p4 M))) (l : Nat) (p3 : Int32) (p4 : Int32) (hl : pK 2 l = true) {out : Option Value × aH} : ∀ f, (∀ (x5 : Int32) (u6 : Value) (u7 : Value) M, pm X F d 213 f 4 [.iload 5, .aload 1, .getfield 42909032, .if_icmp .ge 13] [.ref 138, .ref 18, .ref l, .int p3, .int p4, .int x5, u6, u7] [] (pH K M) out → pG eU K out (P213_4 l p3 p4 x5 M)) := by
  intro f
  induction f using Nat.strongRecOn with
  | _ f ih =>
    intro x5 u6 u7 M H
    refine pG_mono (fun v N h => hC.2 l p3 p4 x5 M v N h) ?_
    unfold S_213_4
    replace H := pRun (ls' := [.ref 138, .ref 18, .ref l, .int p3, .int p4, .int x5, u6, u7]) (st' := [.ref 18, .int x5]) 2 rfl H
    replace H := pGetN (v := M 18 8) rfl (by decide) H
    rcases pIfc (n1 := 13) rfl (mcb_213 rfl) (mcb_213 rfl) H with ⟨g1, g0, _, H⟩ | ⟨g1, g0, _, H⟩
    · refine pG_pos (c := (M 18 8) ≤ x5) g1 ?_
      exact pG_ret (pRetU H)
    · refine pG_neg (c := (M 18 8) ≤ x5) g1 ?_
      replace H := pRun (ls' := [.ref 138, .ref 18, .ref l, .int p3, .int p4, .int x5, u6, u7]) (st' := [.int x5, .int p4]) 2 rfl H
      obtain ⟨rv, h1, hc, H⟩ := pCalT 37 2 (as := [.int p4, .int x5]) (rest := []) rfl (by decide) (by decide +kernel) rfl rfl H
      replace H := pUseF (f_37_ok hS hc) H
      rcases pIf0 (n1 := 12) rfl (mcb_213 rfl) (mcb_213 rfl) H with ⟨g2, g0, _, H⟩ | ⟨g2, g0, _, H⟩
      · refine pG_pos (c := ¬ (f_37 p4 x5) = 0) g2 ?_
        replace H := pRun (ls' := [.ref 138, .ref 18, .ref l, .int p3, .int p4, .int (x5 + kI 1), u6, u7]) (st' := []) 1 rfl H
        obtain ⟨g0, _, H⟩ := pGo (n1 := 4) rfl (mcb_213 rfl) H
        exact (ih _ (by omega)) _ _ _ _ H
      · refine pG_neg (c := ¬ (f_37 p4 x5) = 0) g2 ?_
        replace H := pRun (ls' := [.ref 138, .ref 18, .ref l, .int p3, .int p4, .int x5, u6, u7]) (st' := [.ref 138]) 1 rfl H
        replace H := pGetR (r := 139) (pRf hS (by decide +kernel)) rfl H
        replace H := pRun (ls' := [.ref 138, .ref 18, .ref l, .int p3, .int p4, .int x5, u6, u7]) (st' := [.int (p3 + (kI 1)), .ref 139]) 3 rfl H
        obtain ⟨g3, H⟩ := pAld (n := 6) (r := 143 + 5 * ix (p3 + (kI 1))) (pArL hS (show pAr 139 6 143 5 10 = true by decide +kernel)) (fun h => pArR hS (show pAr 139 6 143 5 10 = true by decide +kernel) h) H
        refine pG_gd g3 ?_
        replace H := pRun (ls' := [.ref 138, .ref 18, .ref l, .int p3, .int p4, .int x5, .ref (143 + 5 * ix (p3 + (kI 1))), u7]) (st' := [.ref 138, .ref (143 + 5 * ix (p3 + (kI 1)))]) 3 rfl H
        replace H := pGetR (r := 139) (pRf hS (by decide +kernel)) rfl H
        replace H := pRun (ls' := [.ref 138, .ref 18, .ref l, .int p3, .int p4, .int x5, .ref (143 + 5 * ix (p3 + (kI 1))), u7]) (st' := [.int p3, .ref 139, .ref (143 + 5 * ix (p3 + (kI 1)))]) 1 rfl H
        obtain ⟨g4, H⟩ := pAld (n := 6) (r := 143 + 5 * ix p3) (pArL hS (show pAr 139 6 143 5 10 = true by decide +kernel)) (fun h => pArR hS (show pAr 139 6 143 5 10 = true by decide +kernel) h) H
        refine pG_gd g4 ?_
        obtain ⟨rv, h1, hc, H⟩ := pCalV 220 1 (143 + 5 * ix (p3 + (kI 1))) (as := [.ref (143 + 5 * ix p3)]) (rest := []) rfl (by decide) (by decide +kernel) rfl rfl H
        obtain ⟨v1, M1, hD, H⟩ := pUseU (D_220_ok hS (pArK (show pAr 139 6 143 5 10 = true by decide +kernel) (by decide) g3) (pArK (show pAr 139 6 143 5 10 = true by decide +kernel) (by decide) g4) hc) H
        refine pG_call (x := v1) (M1 := M1) hD ?_
        replace H := pRun (ls' := [.ref 138, .ref 18, .ref l, .int p3, .int p4, .int x5, .ref (143 + 5 * ix (p3 + (kI 1))), u7]) (st' := [.ref 18]) 1 rfl H
        replace H := pGetR (r := 27) (pRf hS (by decide +kernel)) rfl H
        replace H := pRun (ls' := [.ref 138, .ref 18, .ref l, .int p3, .int p4, .int x5, .ref (143 + 5 * ix (p3 + (kI 1))), u7]) (st' := [.int x5, .ref 27]) 1 rfl H
        obtain ⟨g5, H⟩ := pIld (n := 5) (pLt (show pCa 27 5 = true by decide +kernel)) (pLn hS (show pCa 27 5 = true by decide +kernel)) H
        refine pG_gd g5 ?_
        replace H := pRun (ls' := [.ref 138, .ref 18, .ref l, .int p3, .int p4, .int x5, .ref (143 + 5 * ix (p3 + (kI 1))), .int (M1 27 (ix x5))]) (st' := [.ref (143 + 5 * ix (p3 + (kI 1)))]) 2 rfl H
        replace H := pGetN (v := M1 (143 + 5 * ix (p3 + (kI 1))) 4) rfl (by decide) H
        replace H := pRun (ls' := [.ref 138, .ref 18, .ref l, .int p3, .int p4, .int x5, .ref (143 + 5 * ix (p3 + (kI 1))), .int (M1 27 (ix x5))]) (st' := [.int (kI 60), .int (M1 (143 + 5 * ix (p3 + (kI 1))) 4)]) 1 rfl H
        rcases pIfc (n1 := 11) rfl (mcb_213 rfl) (mcb_213 rfl) H with ⟨g6, g0, _, H⟩ | ⟨g6, g0, _, H⟩
        · refine pG_pos (c := (kI 60) ≤ (M1 (143 + 5 * ix (p3 + (kI 1))) 4)) g6 ?_
          replace H := pRun (ls' := [.ref 138, .ref 18, .ref l, .int p3, .int p4, .int x5, .ref (143 + 5 * ix (p3 + (kI 1))), .int (M1 27 (ix x5))]) (st' := [.ref 138]) 1 rfl H
          replace H := pGetR (r := 140) (pRf hS (by decide +kernel)) rfl H
          replace H := pRun (ls' := [.ref 138, .ref 18, .ref l, .int p3, .int p4, .int x5, .ref (143 + 5 * ix (p3 + (kI 1))), .int (M1 27 (ix x5))]) (st' := [.int x5, .int p3, .ref 140]) 2 rfl H
          obtain ⟨g7, M2, eM2, H⟩ := pIst (n := 5) (pLn hS (show pCa 140 5 = true by decide +kernel)) H
          refine pG_gd g7 (pG_put (M2 := M2) eM2 ?_)
          replace H := pRun (ls' := [.ref 138, .ref 18, .ref l, .int p3, .int p4, .int x5, .ref (143 + 5 * ix (p3 + (kI 1))), .int (M1 27 (ix x5))]) (st' := [.int (p4 ||| ((kI 1) <<< (x5 &&& 31))), .int (p3 + (kI 1)), .ref l, .ref 18, .ref 138]) 11 rfl H
          obtain ⟨rv, h1, hc, H⟩ := pCalT 213 5 (as := [.ref 138, .ref 18, .ref l, .int (p3 + (kI 1)), .int (p4 ||| ((kI 1) <<< (x5 &&& 31)))]) (rest := []) rfl (by decide) (by decide +kernel) rfl rfl H
          obtain ⟨v2, M3, hD, H⟩ := pUseU (hE213 _ _ _ hl _ _ hc) H
          refine pG_call (x := v2) (M1 := M3) hD ?_
          obtain ⟨g0, _, H⟩ := pFall (mcb_213 rfl) H
          replace H := pRun (ls' := [.ref 138, .ref 18, .ref l, .int p3, .int p4, .int (x5 + kI 1), .ref (143 + 5 * ix (p3 + (kI 1))), .int (M1 27 (ix x5))]) (st' := []) 1 rfl H
          obtain ⟨g0, _, H⟩ := pGo (n1 := 4) rfl (mcb_213 rfl) H
          exact (ih _ (by omega)) _ _ _ _ H
        · refine pG_neg (c := (kI 60) ≤ (M1 (143 + 5 * ix (p3 + (kI 1))) 4)) g6 ?_
          replace H := pRun (ls' := [.ref 138, .ref 18, .ref l, .int p3, .int p4, .int x5, .ref (143 + 5 * ix (p3 + (kI 1))), .int (M1 27 (ix x5))]) (st' := [.ref 138]) 1 rfl H
          replace H := pGetR (r := 130) (pRf hS (by decide +kernel)) rfl H
          replace H := pRun (ls' := [.ref 138, .ref 18, .ref l, .int p3, .int p4, .int x5, .ref (143 + 5 * ix (p3 + (kI 1))), .int (M1 27 (ix x5))]) (st' := [.int (kI 1), .int (M1 27 (ix x5)), .int (M1 27 (ix x5)), .ref l, .ref (143 + 5 * ix (p3 + (kI 1))), .ref 130]) 5 rfl H
          rcases pIfc (n1 := 9) rfl (mcb_213 rfl) (mcb_213 rfl) H with ⟨g7, g0, _, H⟩ | ⟨g7, g0, _, H⟩
          · refine pG_pos (c := ¬ (M1 27 (ix x5)) = (kI 1)) g7 ?_
            replace H := pRun (ls' := [.ref 138, .ref 18, .ref l, .int p3, .int p4, .int x5, .ref (143 + 5 * ix (p3 + (kI 1))), .int (M1 27 (ix x5))]) (st' := [.int (kI 0), .int (M1 27 (ix x5)), .ref l, .ref (143 + 5 * ix (p3 + (kI 1))), .ref 130]) 1 rfl H
            obtain ⟨g0, _, H⟩ := pFall (mcb_213 rfl) H
            replace H := pRun (ls' := [.ref 138, .ref 18, .ref l, .int p3, .int p4, .int x5, .ref (143 + 5 * ix (p3 + (kI 1))), .int (M1 27 (ix x5))]) (st' := [.int (kI (-1)), .int (kI 0), .int (M1 27 (ix x5)), .ref l, .ref (143 + 5 * ix (p3 + (kI 1))), .ref 130]) 1 rfl H
            obtain ⟨rv, h1, hc, H⟩ := pCalV 138 5 130 (as := [.ref (143 + 5 * ix (p3 + (kI 1))), .ref l, .int (M1 27 (ix x5)), .int (kI 0), .int (kI (-1))]) (rest := []) rfl (by decide) (by decide +kernel) rfl rfl H
            obtain ⟨v2, M2, hD, H⟩ := pUseI (D_138_ok hS (pArK (show pAr 139 6 143 5 10 = true by decide +kernel) (by decide) g3) hl hc) H
            refine pG_call (x := v2) (M1 := M2) hD ?_
            replace H := pRun (ls' := [.ref 138, .ref 18, .ref l, .int p3, .int p4, .int x5, .ref (143 + 5 * ix (p3 + (kI 1))), .int (M1 27 (ix x5))]) (st' := []) 1 rfl H
            obtain ⟨g0, _, H⟩ := pFall (mcb_213 rfl) H
            replace H := pRun (ls' := [.ref 138, .ref 18, .ref l, .int p3, .int p4, .int x5, .ref (143 + 5 * ix (p3 + (kI 1))), .int (M1 27 (ix x5))]) (st' := [.ref 138]) 1 rfl H
            replace H := pGetR (r := 140) (pRf hS (by decide +kernel)) rfl H
            replace H := pRun (ls' := [.ref 138, .ref 18, .ref l, .int p3, .int p4, .int x5, .ref (143 + 5 * ix (p3 + (kI 1))), .int (M1 27 (ix x5))]) (st' := [.int x5, .int p3, .ref 140]) 2 rfl H
            obtain ⟨g8, M3, eM3, H⟩ := pIst (n := 5) (pLn hS (show pCa 140 5 = true by decide +kernel)) H
            refine pG_gd g8 (pG_put (M2 := M3) eM3 ?_)
            replace H := pRun (ls' := [.ref 138, .ref 18, .ref l, .int p3, .int p4, .int x5, .ref (143 + 5 * ix (p3 + (kI 1))), .int (M1 27 (ix x5))]) (st' := [.int (p4 ||| ((kI 1) <<< (x5 &&& 31))), .int (p3 + (kI 1)), .ref l, .ref 18, .ref 138]) 11 rfl H
            obtain ⟨rv, h1, hc, H⟩ := pCalT 213 5 (as := [.ref 138, .ref 18, .ref l, .int (p3 + (kI 1)), .int (p4 ||| ((kI 1) <<< (x5 &&& 31)))]) (rest := []) rfl (by decide) (by decide +kernel) rfl rfl H
            obtain ⟨v3, M4, hD, H⟩ := pUseU (hE213 _ _ _ hl _ _ hc) H
            refine pG_call (x := v3) (M1 := M4) hD ?_
            obtain ⟨g0, _, H⟩ := pFall (mcb_213 rfl) H
            replace H := pRun (ls' := [.ref 138, .ref 18, .ref l, .int p3, .int p4, .int (x5 + kI 1), .ref (143 + 5 * ix (p3 + (kI 1))), .int (M1 27 (ix x5))]) (st' := []) 1 rfl H
            obtain ⟨g0, _, H⟩ := pGo (n1 := 4) rfl (mcb_213 rfl) H
            exact (ih _ (by omega)) _ _ _ _ H
          · refine pG_neg (c := ¬ (M1 27 (ix x5)) = (kI 1)) g7 ?_
            replace H := pRun (ls' := [.ref 138, .ref 18, .ref l, .int p3, .int p4, .int x5, .ref (143 + 5 * ix (p3 + (kI 1))), .int (M1 27 (ix x5))]) (st' := [.int (kI 5), .int (M1 27 (ix x5)), .ref l, .ref (143 + 5 * ix (p3 + (kI 1))), .ref 130]) 1 rfl H
            obtain ⟨g0, _, H⟩ := pGo (n1 := 10) rfl (mcb_213 rfl) H
            replace H := pRun (ls' := [.ref 138, .ref 18, .ref l, .int p3, .int p4, .int x5, .ref (143 + 5 * ix (p3 + (kI 1))), .int (M1 27 (ix x5))]) (st' := [.int (kI (-1)), .int (kI 5), .int (M1 27 (ix x5)), .ref l, .ref (143 + 5 * ix (p3 + (kI 1))), .ref 130]) 1 rfl H
            obtain ⟨rv, h1, hc, H⟩ := pCalV 138 5 130 (as := [.ref (143 + 5 * ix (p3 + (kI 1))), .ref l, .int (M1 27 (ix x5)), .int (kI 5), .int (kI (-1))]) (rest := []) rfl (by decide) (by decide +kernel) rfl rfl H
            obtain ⟨v2, M2, hD, H⟩ := pUseI (D_138_ok hS (pArK (show pAr 139 6 143 5 10 = true by decide +kernel) (by decide) g3) hl hc) H
            refine pG_call (x := v2) (M1 := M2) hD ?_
            replace H := pRun (ls' := [.ref 138, .ref 18, .ref l, .int p3, .int p4, .int x5, .ref (143 + 5 * ix (p3 + (kI 1))), .int (M1 27 (ix x5))]) (st' := []) 1 rfl H
            obtain ⟨g0, _, H⟩ := pFall (mcb_213 rfl) H
            replace H := pRun (ls' := [.ref 138, .ref 18, .ref l, .int p3, .int p4, .int x5, .ref (143 + 5 * ix (p3 + (kI 1))), .int (M1 27 (ix x5))]) (st' := [.ref 138]) 1 rfl H
            replace H := pGetR (r := 140) (pRf hS (by decide +kernel)) rfl H
            replace H := pRun (ls' := [.ref 138, .ref 18, .ref l, .int p3, .int p4, .int x5, .ref (143 + 5 * ix (p3 + (kI 1))), .int (M1 27 (ix x5))]) (st' := [.int x5, .int p3, .ref 140]) 2 rfl H
            obtain ⟨g8, M3, eM3, H⟩ := pIst (n := 5) (pLn hS (show pCa 140 5 = true by decide +kernel)) H
            refine pG_gd g8 (pG_put (M2 := M3) eM3 ?_)
            replace H := pRun (ls' := [.ref 138, .ref 18, .ref l, .int p3, .int p4, .int x5, .ref (143 + 5 * ix (p3 + (kI 1))), .int (M1 27 (ix x5))]) (st' := [.int (p4 ||| ((kI 1) <<< (x5 &&& 31))), .int (p3 + (kI 1)), .ref l, .ref 18, .ref 138]) 11 rfl H
            obtain ⟨rv, h1, hc, H⟩ := pCalT 213 5 (as := [.ref 138, .ref 18, .ref l, .int (p3 + (kI 1)), .int (p4 ||| ((kI 1) <<< (x5 &&& 31)))]) (rest := []) rfl (by decide) (by decide +kernel) rfl rfl H
            obtain ⟨v3, M4, hD, H⟩ := pUseU (hE213 _ _ _ hl _ _ hc) H
            refine pG_call (x := v3) (M1 := M4) hD ?_
            obtain ⟨g0, _, H⟩ := pFall (mcb_213 rfl) H
            replace H := pRun (ls' := [.ref 138, .ref 18, .ref l, .int p3, .int p4, .int (x5 + kI 1), .ref (143 + 5 * ix (p3 + (kI 1))), .int (M1 27 (ix x5))]) (st' := []) 1 rfl H
            obtain ⟨g0, _, H⟩ := pGo (n1 := 4) rfl (mcb_213 rfl) H
            exact (ih _ (by omega)) _ _ _ _ H
theorem KE_213 {X : aX} {F : Nat} {K : Nat → aK} (hS : pS K) (E213 : Nat → Int32 → Int32 → pMem → pT Unit) (P213_4 : Nat → Int32 → Int32 → Int32 → pMem → pT Unit) (hC : C_213 E213 P213_4) : ∀ d, (∀ (l : Nat) (p3 : Int32) (p4 : Int32) (hl : pK 2 l = true) M out, aM X F d 213 [.ref 138, .ref 18, .ref l, .int p3, .int p4] (pH K M) = some out → pG eU K out (E213 l p3 p4 M)) := by
  intro d0
  induction d0 using Nat.strongRecOn with
  | _ d0 ihd =>
    intro l p3 p4 hl M out H
    obtain ⟨d', g0, _, H⟩ := pEnt (n := 8) (ls := [.ref 138, .ref 18, .ref l, .int p3, .int p4, aD, aD, aD]) (mcb_213 rfl) (by decide +kernel) rfl H
    have hE213 := (ihd d' (by omega))
    refine pG_mono (fun v N h => hC.1 l p3 p4 M v N h) ?_
    unfold S_213_e
    replace H := pRun (ls' := [.ref 138, .ref 18, .ref l, .int p3, .int p4, aD, aD, aD]) (st' := [.ref 18, .int p3]) 2 rfl H
    replace H := pGetN (v := M 18 8) rfl (by decide) H
    rcases pIfc (n1 := 2) rfl (mcb_213 rfl) (mcb_213 rfl) H with ⟨g1, g0, _, H⟩ | ⟨g1, g0, _, H⟩
    · refine pG_pos (c := (M 18 8) ≤ p3) g1 ?_
      replace H := pRun (ls' := [.ref 138, .ref 18, .ref l, .int p3, .int p4, aD, aD, aD]) (st' := [.ref 138, .ref 138]) 2 rfl H
      replace H := pGetR (r := 139) (pRf hS (by decide +kernel)) rfl H
      replace H := pRun (ls' := [.ref 138, .ref 18, .ref l, .int p3, .int p4, aD, aD, aD]) (st' := [.int p3, .ref 139, .ref 138]) 1 rfl H
      obtain ⟨g2, H⟩ := pAld (n := 6) (r := 143 + 5 * ix p3) (pArL hS (show pAr 139 6 143 5 10 = true by decide +kernel)) (fun h => pArR hS (show pAr 139 6 143 5 10 = true by decide +kernel) h) H
      refine pG_gd g2 ?_
      obtain ⟨rv, h1, hc, H⟩ := pCalV 230 0 (143 + 5 * ix p3) (as := []) (rest := [.ref 138]) rfl (by decide) (by decide +kernel) rfl rfl H
      obtain ⟨v1, M1, hD, H⟩ := pUseI (D_230_ok hS (pArK (show pAr 139 6 143 5 10 = true by decide +kernel) (by decide) g2) hc) H
      refine pG_call (x := v1) (M1 := M1) hD ?_
      obtain ⟨rv, h1, hc, H⟩ := pCalV 214 1 138 (as := [.int v1]) (rest := []) rfl (by decide) (by decide +kernel) rfl rfl H
      obtain ⟨v2, M2, hD, H⟩ := pUseU (D_214_ok hS hc) H
      refine pG_call (x := v2) (M1 := M2) hD ?_
      exact pG_ret (pRetU H)
    · refine pG_neg (c := (M 18 8) ≤ p3) g1 ?_
      replace H := pRun (ls' := [.ref 138, .ref 18, .ref l, .int p3, .int p4, aD, aD, aD]) (st' := [.int (kI 5), .int p3]) 2 rfl H
      rcases pIfc (n1 := 3) rfl (mcb_213 rfl) (mcb_213 rfl) H with ⟨g2, g0, _, H⟩ | ⟨g2, g0, _, H⟩
      · refine pG_pos (c := p3 < (kI 5)) g2 ?_
        replace H := pRun (ls' := [.ref 138, .ref 18, .ref l, .int p3, .int p4, .int (kI 0), aD, aD]) (st' := []) 2 rfl H
        obtain ⟨g0, _, H⟩ := pFall (mcb_213 rfl) H
        exact (K_213 hS E213 P213_4 hC hE213 l p3 p4 hl _) _ _ _ _ H
      · refine pG_neg (c := p3 < (kI 5)) g2 ?_
        replace H := pRun (ls' := [.ref 138, .ref 18, .ref l, .int p3, .int p4, aD, aD, aD]) (st' := [.ref 138, .ref 138]) 2 rfl H
        replace H := pGetR (r := 139) (pRf hS (by decide +kernel)) rfl H
        replace H := pRun (ls' := [.ref 138, .ref 18, .ref l, .int p3, .int p4, aD, aD, aD]) (st' := [.int p3, .ref 139, .ref 138]) 1 rfl H
        obtain ⟨g3, H⟩ := pAld (n := 6) (r := 143 + 5 * ix p3) (pArL hS (show pAr 139 6 143 5 10 = true by decide +kernel)) (fun h => pArR hS (show pAr 139 6 143 5 10 = true by decide +kernel) h) H
        refine pG_gd g3 ?_
        obtain ⟨rv, h1, hc, H⟩ := pCalV 230 0 (143 + 5 * ix p3) (as := []) (rest := [.ref 138]) rfl (by decide) (by decide +kernel) rfl rfl H
        obtain ⟨v1, M1, hD, H⟩ := pUseI (D_230_ok hS (pArK (show pAr 139 6 143 5 10 = true by decide +kernel) (by decide) g3) hc) H
        refine pG_call (x := v1) (M1 := M1) hD ?_
        obtain ⟨rv, h1, hc, H⟩ := pCalV 214 1 138 (as := [.int v1]) (rest := []) rfl (by decide) (by decide +kernel) rfl rfl H
        obtain ⟨v2, M2, hD, H⟩ := pUseU (D_214_ok hS hc) H
        refine pG_call (x := v2) (M1 := M2) hD ?_
        exact pG_ret (pRetU H)
theorem D_213_ok {X : aX} {F d : Nat} {K : Nat → aK} (hS : pS K) {l : Nat} {p3 : Int32} {p4 : Int32} (hl : pK 2 l = true) {M : pMem} {out : Option Value × aH} (H : aM X F d 213 [.ref 138, .ref 18, .ref l, .int p3, .int p4] (pH K M) = some out) : pG eU K out (D_213 l p3 p4 M) := by
  refine pG_all (C := fun P : (Nat → Int32 → Int32 → pMem → pT Unit) × (Nat → Int32 → Int32 → Int32 → pMem → pT Unit) => C_213 P.1 P.2) (T := fun P => P.1 l p3 p4 M) eU_inj ((fun _ _ _ _ _ _ => True), (fun _ _ _ _ _ _ _ => True)) ?_ (fun P hP => (KE_213 hS P.1 P.2 hP d) _ _ _ hl _ _  H)
  exact ⟨(fun _ _ _ _ _ _ _ => trivial), (fun _ _ _ _ _ _ _ _ => trivial)⟩
/-- TwoCamps$Cut.allWays(LTwoCamps$Wood;)I -/
def S_147_1 (w : Nat) (P1 : Int32 → Int32 → Int64 → Int32 → pMem → pT Int32) (x2 : Int32) (x3 : Int32) (x4 : Int64) (x6 : Int32) (M : pMem) : pT Int32 := tIf (x2 ≤ x6) (tRet (Int64.toInt32 x4) M) (tGd (¬ (Int32.toInt64 (x6 + (kI 1))) = 0) <| P1 x2 x3 ((x4 * (Int32.toInt64 (x3 - x6))) / (Int32.toInt64 (x6 + (kI 1)))) (x6 + kI 1) M)
def C_147 (w : Nat) (P1 : Int32 → Int32 → Int64 → Int32 → pMem → pT Int32) : Prop := (∀ (x2 : Int32) (x3 : Int32) (x4 : Int64) (x6 : Int32) M v N, S_147_1 w P1 x2 x3 x4 x6 M v N → P1 x2 x3 x4 x6 M v N)
def L_147_1 (w : Nat) (x2 : Int32) (x3 : Int32) (x4 : Int64) (x6 : Int32) (M : pMem) : pT Int32 := fun v N => ∀ P : (Int32 → Int32 → Int64 → Int32 → pMem → pT Int32), C_147 w P → P x2 x3 x4 x6 M v N
def D_147 (w : Nat) (M : pMem) : pT Int32 := L_147_1 w (f_227 w (kI 0) M) ((f_227 w (kI 0) M) + (f_227 w (kI 1) M)) (Int64.ofNat 1) (kI 0) M
theorem K_147 {X : aX} {F d : Nat} {K : Nat → aK} (hS : pS K) {w : Nat} (hw : pK 10 w = true) {out : Option Value × aH} (P1 : Int32 → Int32 → Int64 → Int32 → pMem → pT Int32) (hC : C_147 w P1) : ∀ f, (∀ (x2 : Int32) (x3 : Int32) (x4 : Int64) (x6 : Int32) M, pm X F d 147 f 1 [.iload 6, .iload 2, .if_icmp .ge 3] [.ref 173, .ref w, .int x2, .int x3, .long x4, aD, .int x6] [] (pH K M) out → pG eI K out (P1 x2 x3 x4 x6 M)) := by
  intro f
  induction f using Nat.strongRecOn with
  | _ f ih =>
    intro x2 x3 x4 x6 M H
    refine pG_mono (fun v N h => hC x2 x3 x4 x6 M v N h) ?_
    unfold S_147_1
    replace H := pRun (ls' := [.ref 173, .ref w, .int x2, .int x3, .long x4, aD, .int x6]) (st' := [.int x2, .int x6]) 2 rfl H
    rcases pIfc (n1 := 3) rfl (mcb_147 rfl) (mcb_147 rfl) H with ⟨g1, g0, _, H⟩ | ⟨g1, g0, _, H⟩
    · refine pG_pos (c := x2 ≤ x6) g1 ?_
      replace H := pRun (ls' := [.ref 173, .ref w, .int x2, .int x3, .long x4, aD, .int x6]) (st' := [.int (Int64.toInt32 x4)]) 2 rfl H
      exact pG_ret (pRetI H)
    · refine pG_neg (c := x2 ≤ x6) g1 ?_
      replace H := pRun (ls' := [.ref 173, .ref w, .int x2, .int x3, .long x4, aD, .int x6]) (st' := [.long (Int32.toInt64 (x6 + (kI 1))), .long (x4 * (Int32.toInt64 (x3 - x6)))]) 10 rfl H
      obtain ⟨g2, H⟩ := pLdv H
      refine pG_gd g2 ?_
      replace H := pRun (ls' := [.ref 173, .ref w, .int x2, .int x3, .long ((x4 * (Int32.toInt64 (x3 - x6))) / (Int32.toInt64 (x6 + (kI 1)))), aD, .int (x6 + kI 1)]) (st' := []) 2 rfl H
      obtain ⟨g0, _, H⟩ := pGo (n1 := 1) rfl (mcb_147 rfl) H
      exact (ih _ (by omega)) _ _ _ _  _ H
theorem L_147_1_ok {X : aX} {F d : Nat} {K : Nat → aK} (hS : pS K) {w : Nat} (hw : pK 10 w = true) {out : Option Value × aH} {f : Nat} {x2 : Int32} {x3 : Int32} {x4 : Int64} {x6 : Int32} {M : pMem} (H : pm X F d 147 f 1 [.iload 6, .iload 2, .if_icmp .ge 3] [.ref 173, .ref w, .int x2, .int x3, .long x4, aD, .int x6] [] (pH K M) out) : pG eI K out (L_147_1 w x2 x3 x4 x6 M) := by
  refine pG_all (C := fun P : (Int32 → Int32 → Int64 → Int32 → pMem → pT Int32) => C_147 w P) (T := fun P => P x2 x3 x4 x6 M) eI_inj (fun _ _ _ _ _ _ _ => True) ?_ (fun P hP => (K_147 hS hw P hP f) _ _ _ _ _ H)
  exact (fun _ _ _ _ _ _ _ _ => trivial)
theorem D_147_ok {X : aX} {F d : Nat} {K : Nat → aK} (hS : pS K) {w : Nat} (hw : pK 10 w = true) {M : pMem} {out : Option Value × aH} (H : aM X F d 147 [.ref 173, .ref w] (pH K M) = some out) : pG eI K out (D_147 w M) := by
  obtain ⟨d', g0, _, H⟩ := pEnt (n := 7) (ls := [.ref 173, .ref w, aD, aD, aD, aD, aD]) (mcb_147 rfl) (by decide +kernel) rfl H
  unfold D_147
  replace H := pRun (ls' := [.ref 173, .ref w, aD, aD, aD, aD, aD]) (st' := [.int (kI 0), .ref w]) 2 rfl H
  obtain ⟨rv, h1, hc, H⟩ := pCalV 227 1 w (as := [.int (kI 0)]) (rest := []) rfl (by decide) (by decide +kernel) rfl rfl H
  replace H := pUseF (f_227_ok hS hw hc) H
  replace H := pRun (ls' := [.ref 173, .ref w, .int (f_227 w (kI 0) M), aD, aD, aD, aD]) (st' := [.int (kI 1), .ref w, .int (f_227 w (kI 0) M)]) 4 rfl H
  obtain ⟨rv, h1, hc, H⟩ := pCalV 227 1 w (as := [.int (kI 1)]) (rest := [.int (f_227 w (kI 0) M)]) rfl (by decide) (by decide +kernel) rfl rfl H
  replace H := pUseF (f_227_ok hS hw hc) H
  replace H := pRun (ls' := [.ref 173, .ref w, .int (f_227 w (kI 0) M), .int ((f_227 w (kI 0) M) + (f_227 w (kI 1) M)), .long (Int64.ofNat 1), aD, .int (kI 0)]) (st' := []) 6 rfl H
  obtain ⟨g0, _, H⟩ := pFall (mcb_147 rfl) H
  exact L_147_1_ok hS hw  H
def l_147 (w : Nat) : List (Nat × Nat) := []
theorem FC_147 {w : Nat} (hw : pK 10 w = true) : C_147 w (fun _ _ _ _ M _ N => pFr (l_147 w) M N) := fun x2 x3 x4 x6 M => show pTf (l_147 w) M (S_147_1 w _ x2 x3 x4 x6 M) from (tf_if (tf_ret pFr_refl) (tf_gd fun g2 => (tf_jump pFr_refl)))
theorem F_147 {w : Nat} (hw : pK 10 w = true) {M : pMem} {v : Int32} {N : pMem} (h : D_147 w M v N) : pFr (l_147 w) M N :=
  (show pTf (l_147 w) M (D_147 w M) from (tf_jumpL (fun _ _ _ _ M _ N => pFr (l_147 w) M N) (FC_147 hw) rfl pFr_refl)) v N h
/-- TwoCamps$Cut.sumOf(I[I)I -/
def S_149_1 (p0 : Int32) (P1 : Int32 → Int32 → pMem → pT Int32) (x2 : Int32) (x3 : Int32) (M : pMem) : pT Int32 := tIf ((kI 24) ≤ x3) (tRet x2 M) (tIf ((f_37 p0 x3) = 0) (P1 (x2 + (kI 0)) (x3 + kI 1) M) (tGd (pIn x3 24) <| P1 (x2 + (M 29 (ix x3))) (x3 + kI 1) M))
def C_149 (p0 : Int32) (P1 : Int32 → Int32 → pMem → pT Int32) : Prop := (∀ (x2 : Int32) (x3 : Int32) M v N, S_149_1 p0 P1 x2 x3 M v N → P1 x2 x3 M v N)
def L_149_1 (p0 : Int32) (x2 : Int32) (x3 : Int32) (M : pMem) : pT Int32 := fun v N => ∀ P : (Int32 → Int32 → pMem → pT Int32), C_149 p0 P → P x2 x3 M v N
def D_149 (p0 : Int32) (M : pMem) : pT Int32 := L_149_1 p0 (kI 0) (kI 0) M
theorem K_149 {X : aX} {F d : Nat} {K : Nat → aK} (hS : pS K) {p0 : Int32} {out : Option Value × aH} (P1 : Int32 → Int32 → pMem → pT Int32) (hC : C_149 p0 P1) : ∀ f, (∀ (x2 : Int32) (x3 : Int32) M, pm X F d 149 f 1 [.iload 3, .bipush 24, .if_icmp .ge 6] [.int p0, .ref 29, .int x2, .int x3] [] (pH K M) out → pG eI K out (P1 x2 x3 M)) := by
  intro f
  induction f using Nat.strongRecOn with
  | _ f ih =>
    intro x2 x3 M H
    refine pG_mono (fun v N h => hC x2 x3 M v N h) ?_
    unfold S_149_1
    replace H := pRun (ls' := [.int p0, .ref 29, .int x2, .int x3]) (st' := [.int (kI 24), .int x3]) 2 rfl H
    rcases pIfc (n1 := 6) rfl (mcb_149 rfl) (mcb_149 rfl) H with ⟨g1, g0, _, H⟩ | ⟨g1, g0, _, H⟩
    · refine pG_pos (c := (kI 24) ≤ x3) g1 ?_
      replace H := pRun (ls' := [.int p0, .ref 29, .int x2, .int x3]) (st' := [.int x2]) 1 rfl H
      exact pG_ret (pRetI H)
    · refine pG_neg (c := (kI 24) ≤ x3) g1 ?_
      replace H := pRun (ls' := [.int p0, .ref 29, .int x2, .int x3]) (st' := [.int x3, .int p0, .int x2]) 3 rfl H
      obtain ⟨rv, h1, hc, H⟩ := pCalT 37 2 (as := [.int p0, .int x3]) (rest := [.int x2]) rfl (by decide) (by decide +kernel) rfl rfl H
      replace H := pUseF (f_37_ok hS hc) H
      rcases pIf0 (n1 := 4) rfl (mcb_149 rfl) (mcb_149 rfl) H with ⟨g2, g0, _, H⟩ | ⟨g2, g0, _, H⟩
      · refine pG_pos (c := (f_37 p0 x3) = 0) g2 ?_
        replace H := pRun (ls' := [.int p0, .ref 29, .int x2, .int x3]) (st' := [.int (kI 0), .int x2]) 1 rfl H
        obtain ⟨g0, _, H⟩ := pFall (mcb_149 rfl) H
        replace H := pRun (ls' := [.int p0, .ref 29, .int (x2 + (kI 0)), .int (x3 + kI 1)]) (st' := []) 3 rfl H
        obtain ⟨g0, _, H⟩ := pGo (n1 := 1) rfl (mcb_149 rfl) H
        exact (ih _ (by omega)) _ _  _ H
      · refine pG_neg (c := (f_37 p0 x3) = 0) g2 ?_
        replace H := pRun (ls' := [.int p0, .ref 29, .int x2, .int x3]) (st' := [.int x3, .ref 29, .int x2]) 2 rfl H
        obtain ⟨g3, H⟩ := pIld (n := 24) (pLt (show pCa 29 24 = true by decide +kernel)) (pLn hS (show pCa 29 24 = true by decide +kernel)) H
        refine pG_gd g3 ?_
        obtain ⟨g0, _, H⟩ := pGo (n1 := 5) rfl (mcb_149 rfl) H
        replace H := pRun (ls' := [.int p0, .ref 29, .int (x2 + (M 29 (ix x3))), .int (x3 + kI 1)]) (st' := []) 3 rfl H
        obtain ⟨g0, _, H⟩ := pGo (n1 := 1) rfl (mcb_149 rfl) H
        exact (ih _ (by omega)) _ _  _ H
theorem L_149_1_ok {X : aX} {F d : Nat} {K : Nat → aK} (hS : pS K) {p0 : Int32} {out : Option Value × aH} {f : Nat} {x2 : Int32} {x3 : Int32} {M : pMem} (H : pm X F d 149 f 1 [.iload 3, .bipush 24, .if_icmp .ge 6] [.int p0, .ref 29, .int x2, .int x3] [] (pH K M) out) : pG eI K out (L_149_1 p0 x2 x3 M) := by
  refine pG_all (C := fun P : (Int32 → Int32 → pMem → pT Int32) => C_149 p0 P) (T := fun P => P x2 x3 M) eI_inj (fun _ _ _ _ _ => True) ?_ (fun P hP => (K_149 hS P hP f) _ _ _ H)
  exact (fun _ _ _ _ _ _ => trivial)
theorem D_149_ok {X : aX} {F d : Nat} {K : Nat → aK} (hS : pS K) {p0 : Int32} {M : pMem} {out : Option Value × aH} (H : aM X F d 149 [.int p0, .ref 29] (pH K M) = some out) : pG eI K out (D_149 p0 M) := by
  obtain ⟨d', g0, _, H⟩ := pEnt (n := 4) (ls := [.int p0, .ref 29, aD, aD]) (mcb_149 rfl) (by decide +kernel) rfl H
  unfold D_149
  replace H := pRun (ls' := [.int p0, .ref 29, .int (kI 0), .int (kI 0)]) (st' := []) 4 rfl H
  obtain ⟨g0, _, H⟩ := pFall (mcb_149 rfl) H
  exact L_149_1_ok hS  H
def l_149 : List (Nat × Nat) := []
theorem FC_149 {p0 : Int32} : C_149 p0 (fun _ _ M _ N => pFr (l_149) M N) := fun x2 x3 M => show pTf (l_149) M (S_149_1 p0 _ x2 x3 M) from (tf_if (tf_ret pFr_refl) (tf_if (tf_jump pFr_refl) (tf_gd fun g3 => (tf_jump pFr_refl))))
theorem F_149 {p0 : Int32} {M : pMem} {v : Int32} {N : pMem} (h : D_149 p0 M v N) : pFr (l_149) M N :=
  (show pTf (l_149) M (D_149 p0 M) from (tf_jumpL (fun _ _ M _ N => pFr (l_149) M N) (FC_149) rfl pFr_refl)) v N h
/-- TwoCamps$Cut.addBoy(III)V -/
def S_151_1 (p1 : Int32) (p2 : Int32) (p3 : Int32) (P1 : Int32 → pMem → pT Unit) (P3 : Int32 → Int32 → pMem → pT Unit) (x4 : Int32) (M : pMem) : pT Unit := tIf (x4 ≤ 0) (tRet () M) (P3 x4 p3 M)
def S_151_3 (p1 : Int32) (p2 : Int32) (p3 : Int32) (P1 : Int32 → pMem → pT Unit) (P3 : Int32 → Int32 → pMem → pT Unit) (x4 : Int32) (x5 : Int32) (M : pMem) : pT Unit := tIf (x5 < p1) (P1 (x4 + kI (-1)) M) (tGd (pIn x4 13) <| tGd (pIn x5 1189) <| tGd (pIn (x4 - (kI 1)) 13) <| tGd (pIn (x5 - p1) 1189) <| tGd (pIn x5 1189) <| tPut (aPut M (175 + 1 * ix x4) (ix x5) ((M (175 + 1 * ix x4) (ix x5)) + (M (175 + 1 * ix (x4 - (kI 1))) (ix (x5 - p1))))) fun M1 => P3 x4 (x5 + kI (-1)) M1)
def C_151 (p1 : Int32) (p2 : Int32) (p3 : Int32) (P1 : Int32 → pMem → pT Unit) (P3 : Int32 → Int32 → pMem → pT Unit) : Prop := (∀ (x4 : Int32) M v N, S_151_1 p1 p2 p3 P1 P3 x4 M v N → P1 x4 M v N) ∧ (∀ (x4 : Int32) (x5 : Int32) M v N, S_151_3 p1 p2 p3 P1 P3 x4 x5 M v N → P3 x4 x5 M v N)
def L_151_1 (p1 : Int32) (p2 : Int32) (p3 : Int32) (x4 : Int32) (M : pMem) : pT Unit := fun v N => ∀ P : (Int32 → pMem → pT Unit) × (Int32 → Int32 → pMem → pT Unit), C_151 p1 p2 p3 P.1 P.2 → P.1 x4 M v N
def L_151_3 (p1 : Int32) (p2 : Int32) (p3 : Int32) (x4 : Int32) (x5 : Int32) (M : pMem) : pT Unit := fun v N => ∀ P : (Int32 → pMem → pT Unit) × (Int32 → Int32 → pMem → pT Unit), C_151 p1 p2 p3 P.1 P.2 → P.2 x4 x5 M v N
def D_151 (p1 : Int32) (p2 : Int32) (p3 : Int32) (M : pMem) : pT Unit := L_151_1 p1 p2 p3 p2 M
theorem K_151 {X : aX} {F d : Nat} {K : Nat → aK} (hS : pS K) {p1 : Int32} {p2 : Int32} {p3 : Int32} {out : Option Value × aH} (P1 : Int32 → pMem → pT Unit) (P3 : Int32 → Int32 → pMem → pT Unit) (hC : C_151 p1 p2 p3 P1 P3) : ∀ f, (∀ (x4 : Int32) (u5 : Value) M, pm X F d 151 f 1 [.iload 4, .ifCond .le 6] [.ref 173, .int p1, .int p2, .int p3, .int x4, u5] [] (pH K M) out → pG eU K out (P1 x4 M)) ∧ (∀ (x4 : Int32) (x5 : Int32) M, pm X F d 151 f 3 [.iload 5, .iload 1, .if_icmp .lt 5] [.ref 173, .int p1, .int p2, .int p3, .int x4, .int x5] [] (pH K M) out → pG eU K out (P3 x4 x5 M)) := by
  intro f
  induction f using Nat.strongRecOn with
  | _ f ih =>
    refine ⟨?_, ?_⟩
    · intro x4 u5 M H
      refine pG_mono (fun v N h => hC.1 x4 M v N h) ?_
      unfold S_151_1
      replace H := pRun (ls' := [.ref 173, .int p1, .int p2, .int p3, .int x4, u5]) (st' := [.int x4]) 1 rfl H
      rcases pIf0 (n1 := 6) rfl (mcb_151 rfl) (mcb_151 rfl) H with ⟨g1, g0, _, H⟩ | ⟨g1, g0, _, H⟩
      · refine pG_pos (c := x4 ≤ 0) g1 ?_
        exact pG_ret (pRetU H)
      · refine pG_neg (c := x4 ≤ 0) g1 ?_
        replace H := pRun (ls' := [.ref 173, .int p1, .int p2, .int p3, .int x4, .int p3]) (st' := []) 2 rfl H
        obtain ⟨g0, _, H⟩ := pFall (mcb_151 rfl) H
        exact (ih _ (by omega)).2 _ _  _ H
    · intro x4 x5 M H
      refine pG_mono (fun v N h => hC.2 x4 x5 M v N h) ?_
      unfold S_151_3
      replace H := pRun (ls' := [.ref 173, .int p1, .int p2, .int p3, .int x4, .int x5]) (st' := [.int p1, .int x5]) 2 rfl H
      rcases pIfc (n1 := 5) rfl (mcb_151 rfl) (mcb_151 rfl) H with ⟨g1, g0, _, H⟩ | ⟨g1, g0, _, H⟩
      · refine pG_pos (c := x5 < p1) g1 ?_
        replace H := pRun (ls' := [.ref 173, .int p1, .int p2, .int p3, .int (x4 + kI (-1)), .int x5]) (st' := []) 1 rfl H
        obtain ⟨g0, _, H⟩ := pGo (n1 := 1) rfl (mcb_151 rfl) H
        exact (ih _ (by omega)).1 _ _  _ H
      · refine pG_neg (c := x5 < p1) g1 ?_
        replace H := pRun (ls' := [.ref 173, .int p1, .int p2, .int p3, .int x4, .int x5]) (st' := [.ref 173]) 1 rfl H
        replace H := pGetR (r := 174) (pRf hS (by decide +kernel)) rfl H
        replace H := pRun (ls' := [.ref 173, .int p1, .int p2, .int p3, .int x4, .int x5]) (st' := [.int x4, .ref 174]) 1 rfl H
        obtain ⟨g2, H⟩ := pAld (n := 13) (r := 175 + 1 * ix x4) (pArL hS (show pAr 174 13 175 1 100 = true by decide +kernel)) (fun h => pArR hS (show pAr 174 13 175 1 100 = true by decide +kernel) h) H
        refine pG_gd g2 ?_
        replace H := pRun (ls' := [.ref 173, .int p1, .int p2, .int p3, .int x4, .int x5]) (st' := [.int x5, .ref (175 + 1 * ix x4), .int x5, .ref (175 + 1 * ix x4)]) 2 rfl H
        obtain ⟨g3, H⟩ := pIld (n := 1189) (pLt (pArA (show pAa 13 175 1 1189 = true by decide +kernel) g2)) (pLn hS (pArA (show pAa 13 175 1 1189 = true by decide +kernel) g2)) H
        refine pG_gd g3 ?_
        replace H := pRun (ls' := [.ref 173, .int p1, .int p2, .int p3, .int x4, .int x5]) (st' := [.ref 173, .int (M (175 + 1 * ix x4) (ix x5)), .int x5, .ref (175 + 1 * ix x4)]) 1 rfl H
        replace H := pGetR (r := 174) (pRf hS (by decide +kernel)) rfl H
        replace H := pRun (ls' := [.ref 173, .int p1, .int p2, .int p3, .int x4, .int x5]) (st' := [.int (x4 - (kI 1)), .ref 174, .int (M (175 + 1 * ix x4) (ix x5)), .int x5, .ref (175 + 1 * ix x4)]) 3 rfl H
        obtain ⟨g4, H⟩ := pAld (n := 13) (r := 175 + 1 * ix (x4 - (kI 1))) (pArL hS (show pAr 174 13 175 1 100 = true by decide +kernel)) (fun h => pArR hS (show pAr 174 13 175 1 100 = true by decide +kernel) h) H
        refine pG_gd g4 ?_
        replace H := pRun (ls' := [.ref 173, .int p1, .int p2, .int p3, .int x4, .int x5]) (st' := [.int (x5 - p1), .ref (175 + 1 * ix (x4 - (kI 1))), .int (M (175 + 1 * ix x4) (ix x5)), .int x5, .ref (175 + 1 * ix x4)]) 3 rfl H
        obtain ⟨g5, H⟩ := pIld (n := 1189) (pLt (pArA (show pAa 13 175 1 1189 = true by decide +kernel) g4)) (pLn hS (pArA (show pAa 13 175 1 1189 = true by decide +kernel) g4)) H
        refine pG_gd g5 ?_
        replace H := pRun (ls' := [.ref 173, .int p1, .int p2, .int p3, .int x4, .int x5]) (st' := [.int ((M (175 + 1 * ix x4) (ix x5)) + (M (175 + 1 * ix (x4 - (kI 1))) (ix (x5 - p1)))), .int x5, .ref (175 + 1 * ix x4)]) 1 rfl H
        obtain ⟨g6, M1, eM1, H⟩ := pIst (n := 1189) (pLn hS (pArA (show pAa 13 175 1 1189 = true by decide +kernel) g2)) H
        refine pG_gd g6 (pG_put (M2 := M1) eM1 ?_)
        replace H := pRun (ls' := [.ref 173, .int p1, .int p2, .int p3, .int x4, .int (x5 + kI (-1))]) (st' := []) 1 rfl H
        obtain ⟨g0, _, H⟩ := pGo (n1 := 3) rfl (mcb_151 rfl) H
        exact (ih _ (by omega)).2 _ _  _ H
theorem L_151_1_ok {X : aX} {F d : Nat} {K : Nat → aK} (hS : pS K) {p1 : Int32} {p2 : Int32} {p3 : Int32} {out : Option Value × aH} {f : Nat} {x4 : Int32} {u5 : Value} {M : pMem} (H : pm X F d 151 f 1 [.iload 4, .ifCond .le 6] [.ref 173, .int p1, .int p2, .int p3, .int x4, u5] [] (pH K M) out) : pG eU K out (L_151_1 p1 p2 p3 x4 M) := by
  refine pG_all (C := fun P : (Int32 → pMem → pT Unit) × (Int32 → Int32 → pMem → pT Unit) => C_151 p1 p2 p3 P.1 P.2) (T := fun P => P.1 x4 M) eU_inj ((fun _ _ _ _ => True), (fun _ _ _ _ _ => True)) ?_ (fun P hP => (K_151 hS P.1 P.2 hP f).1 _ _ _ H)
  exact ⟨(fun _ _ _ _ _ => trivial), (fun _ _ _ _ _ _ => trivial)⟩
theorem L_151_3_ok {X : aX} {F d : Nat} {K : Nat → aK} (hS : pS K) {p1 : Int32} {p2 : Int32} {p3 : Int32} {out : Option Value × aH} {f : Nat} {x4 : Int32} {x5 : Int32} {M : pMem} (H : pm X F d 151 f 3 [.iload 5, .iload 1, .if_icmp .lt 5] [.ref 173, .int p1, .int p2, .int p3, .int x4, .int x5] [] (pH K M) out) : pG eU K out (L_151_3 p1 p2 p3 x4 x5 M) := by
  refine pG_all (C := fun P : (Int32 → pMem → pT Unit) × (Int32 → Int32 → pMem → pT Unit) => C_151 p1 p2 p3 P.1 P.2) (T := fun P => P.2 x4 x5 M) eU_inj ((fun _ _ _ _ => True), (fun _ _ _ _ _ => True)) ?_ (fun P hP => (K_151 hS P.1 P.2 hP f).2 _ _ _ H)
  exact ⟨(fun _ _ _ _ _ => trivial), (fun _ _ _ _ _ _ => trivial)⟩
theorem D_151_ok {X : aX} {F d : Nat} {K : Nat → aK} (hS : pS K) {p1 : Int32} {p2 : Int32} {p3 : Int32} {M : pMem} {out : Option Value × aH} (H : aM X F d 151 [.ref 173, .int p1, .int p2, .int p3] (pH K M) = some out) : pG eU K out (D_151 p1 p2 p3 M) := by
  obtain ⟨d', g0, _, H⟩ := pEnt (n := 6) (ls := [.ref 173, .int p1, .int p2, .int p3, aD, aD]) (mcb_151 rfl) (by decide +kernel) rfl H
  unfold D_151
  replace H := pRun (ls' := [.ref 173, .int p1, .int p2, .int p3, .int p2, aD]) (st' := []) 2 rfl H
  obtain ⟨g0, _, H⟩ := pFall (mcb_151 rfl) H
  exact L_151_1_ok hS  H
def l_151 : List (Nat × Nat) := []
theorem FC_151 {p1 : Int32} {p2 : Int32} {p3 : Int32} : C_151 p1 p2 p3 (fun _ M _ N => pFr (l_151) M N) (fun _ _ M _ N => pFr (l_151) M N) := ⟨fun x4 M => show pTf (l_151) M (S_151_1 p1 p2 p3 _ _ x4 M) from (tf_if (tf_ret pFr_refl) (tf_jump pFr_refl)), fun x4 x5 M => show pTf (l_151) M (S_151_3 p1 p2 p3 _ _ x4 x5 M) from (tf_if (tf_jump pFr_refl) (tf_gd fun g2 => (tf_gd fun g3 => (tf_gd fun g4 => (tf_gd fun g5 => (tf_gd fun g6 => (tf_putS pFr_refl (pScrR (pArA (show pAa 13 175 1 1189 = true by decide +kernel) g2)) fun M1 f1 => (tf_jump f1))))))))⟩
theorem F_151 {p1 : Int32} {p2 : Int32} {p3 : Int32} {M : pMem} {v : Unit} {N : pMem} (h : D_151 p1 p2 p3 M v N) : pFr (l_151) M N :=
  (show pTf (l_151) M (D_151 p1 p2 p3 M) from (tf_jumpL (fun _ M _ N => pFr (l_151) M N, fun _ _ M _ N => pFr (l_151) M N) (FC_151) rfl pFr_refl)) v N h
/-- TwoCamps$Cut.atMost(I[III)I -/
def S_150_6 (p1 : Int32) (p3 : Int32) (p4 : Int32) (P6 : Int32 → pMem → pT Int32) (P9 : Int32 → pMem → pT Int32) (P14 : Int32 → Int32 → pMem → pT Int32) (x5 : Int32) (M : pMem) : pT Int32 := tIf (p3 < x5) (tGd (pIn (kI 0) 1189) <| tPut (aPut M 175 (ix (kI 0)) (kI 1)) fun M1 => P9 (kI 0) M1) (tGd (pIn x5 13) <| tCall (D_240_r (175 + 1 * ix x5) (kI 0) M) fun _ M1 => P6 (x5 + kI 1) M1)
def S_150_9 (p1 : Int32) (p3 : Int32) (p4 : Int32) (P6 : Int32 → pMem → pT Int32) (P9 : Int32 → pMem → pT Int32) (P14 : Int32 → Int32 → pMem → pT Int32) (x5 : Int32) (M : pMem) : pT Int32 := tIf ((kI 24) ≤ x5) (P14 (kI 0) (kI 0) M) (tIf ((f_37 p1 x5) = 0) (P9 (x5 + kI 1) M) (tGd (pIn x5 24) <| tCall (D_151 (M 29 (ix x5)) p3 p4 M) fun _ M1 => P9 (x5 + kI 1) M1))
def S_150_14 (p1 : Int32) (p3 : Int32) (p4 : Int32) (P6 : Int32 → pMem → pT Int32) (P9 : Int32 → pMem → pT Int32) (P14 : Int32 → Int32 → pMem → pT Int32) (x5 : Int32) (x6 : Int32) (M : pMem) : pT Int32 := tIf (p4 < x6) (tRet x5 M) (tGd (pIn p3 13) <| tGd (pIn x6 1189) <| P14 (x5 + (M (175 + 1 * ix p3) (ix x6))) (x6 + kI 1) M)
def C_150 (p1 : Int32) (p3 : Int32) (p4 : Int32) (P6 : Int32 → pMem → pT Int32) (P9 : Int32 → pMem → pT Int32) (P14 : Int32 → Int32 → pMem → pT Int32) : Prop := (∀ (x5 : Int32) M v N, S_150_6 p1 p3 p4 P6 P9 P14 x5 M v N → P6 x5 M v N) ∧ (∀ (x5 : Int32) M v N, S_150_9 p1 p3 p4 P6 P9 P14 x5 M v N → P9 x5 M v N) ∧ (∀ (x5 : Int32) (x6 : Int32) M v N, S_150_14 p1 p3 p4 P6 P9 P14 x5 x6 M v N → P14 x5 x6 M v N)
def L_150_6 (p1 : Int32) (p3 : Int32) (p4 : Int32) (x5 : Int32) (M : pMem) : pT Int32 := fun v N => ∀ P : (Int32 → pMem → pT Int32) × (Int32 → pMem → pT Int32) × (Int32 → Int32 → pMem → pT Int32), C_150 p1 p3 p4 P.1 P.2.1 P.2.2 → P.1 x5 M v N
def L_150_9 (p1 : Int32) (p3 : Int32) (p4 : Int32) (x5 : Int32) (M : pMem) : pT Int32 := fun v N => ∀ P : (Int32 → pMem → pT Int32) × (Int32 → pMem → pT Int32) × (Int32 → Int32 → pMem → pT Int32), C_150 p1 p3 p4 P.1 P.2.1 P.2.2 → P.2.1 x5 M v N
def L_150_14 (p1 : Int32) (p3 : Int32) (p4 : Int32) (x5 : Int32) (x6 : Int32) (M : pMem) : pT Int32 := fun v N => ∀ P : (Int32 → pMem → pT Int32) × (Int32 → pMem → pT Int32) × (Int32 → Int32 → pMem → pT Int32), C_150 p1 p3 p4 P.1 P.2.1 P.2.2 → P.2.2 x5 x6 M v N
def D_150 (p1 : Int32) (p3 : Int32) (p4 : Int32) (M : pMem) : pT Int32 := tIf (p3 < 0) (tRet (kI 0) M) (tIf ((kI 12) < p3) (tRet (kI 0) M) (tIf (p4 < 0) (tRet (kI 0) M) (tIf (p4 ≤ (kI 1188)) (L_150_6 p1 p3 p4 (kI 0) M) (tRet (kI 0) M))))
theorem K_150 {X : aX} {F d : Nat} {K : Nat → aK} (hS : pS K) {p1 : Int32} {p3 : Int32} {p4 : Int32} {out : Option Value × aH} (P6 : Int32 → pMem → pT Int32) (P9 : Int32 → pMem → pT Int32) (P14 : Int32 → Int32 → pMem → pT Int32) (hC : C_150 p1 p3 p4 P6 P9 P14) : ∀ f, (∀ (x5 : Int32) (u6 : Value) M, pm X F d 150 f 6 [.iload 5, .iload 3, .if_icmp .gt 8] [.ref 173, .int p1, .ref 29, .int p3, .int p4, .int x5, u6] [] (pH K M) out → pG eI K out (P6 x5 M)) ∧ (∀ (x5 : Int32) (u6 : Value) M, pm X F d 150 f 9 [.iload 5, .bipush 24, .if_icmp .ge 13] [.ref 173, .int p1, .ref 29, .int p3, .int p4, .int x5, u6] [] (pH K M) out → pG eI K out (P9 x5 M)) ∧ (∀ (x5 : Int32) (x6 : Int32) M, pm X F d 150 f 14 [.iload 6, .iload 4, .if_icmp .gt 16] [.ref 173, .int p1, .ref 29, .int p3, .int p4, .int x5, .int x6] [] (pH K M) out → pG eI K out (P14 x5 x6 M)) := by
  intro f
  induction f using Nat.strongRecOn with
  | _ f ih =>
    refine ⟨?_, ?_, ?_⟩
    · intro x5 u6 M H
      refine pG_mono (fun v N h => hC.1 x5 M v N h) ?_
      unfold S_150_6
      replace H := pRun (ls' := [.ref 173, .int p1, .ref 29, .int p3, .int p4, .int x5, u6]) (st' := [.int p3, .int x5]) 2 rfl H
      rcases pIfc (n1 := 8) rfl (mcb_150 rfl) (mcb_150 rfl) H with ⟨g1, g0, _, H⟩ | ⟨g1, g0, _, H⟩
      · refine pG_pos (c := p3 < x5) g1 ?_
        replace H := pRun (ls' := [.ref 173, .int p1, .ref 29, .int p3, .int p4, .int x5, u6]) (st' := [.ref 173]) 1 rfl H
        replace H := pGetR (r := 174) (pRf hS (by decide +kernel)) rfl H
        replace H := pRun (ls' := [.ref 173, .int p1, .ref 29, .int p3, .int p4, .int x5, u6]) (st' := [.int (kI 0), .ref 174]) 1 rfl H
        obtain ⟨g2, H⟩ := pAld (n := 13) (r := 175) (pArL hS (show pAr 174 13 175 1 100 = true by decide +kernel)) (fun _ => pRf hS (by decide +kernel)) H
        clear g2
        replace H := pRun (ls' := [.ref 173, .int p1, .ref 29, .int p3, .int p4, .int x5, u6]) (st' := [.int (kI 1), .int (kI 0), .ref 175]) 2 rfl H
        obtain ⟨g3, M1, eM1, H⟩ := pIst (n := 1189) (pLn hS (show pCa 175 1189 = true by decide +kernel)) H
        refine pG_gd g3 (pG_put (M2 := M1) eM1 ?_)
        replace H := pRun (ls' := [.ref 173, .int p1, .ref 29, .int p3, .int p4, .int (kI 0), u6]) (st' := []) 2 rfl H
        obtain ⟨g0, _, H⟩ := pFall (mcb_150 rfl) H
        exact (ih _ (by omega)).2.1 _ _  _ H
      · refine pG_neg (c := p3 < x5) g1 ?_
        replace H := pRun (ls' := [.ref 173, .int p1, .ref 29, .int p3, .int p4, .int x5, u6]) (st' := [.ref 173]) 1 rfl H
        replace H := pGetR (r := 174) (pRf hS (by decide +kernel)) rfl H
        replace H := pRun (ls' := [.ref 173, .int p1, .ref 29, .int p3, .int p4, .int x5, u6]) (st' := [.int x5, .ref 174]) 1 rfl H
        obtain ⟨g2, H⟩ := pAld (n := 13) (r := 175 + 1 * ix x5) (pArL hS (show pAr 174 13 175 1 100 = true by decide +kernel)) (fun h => pArR hS (show pAr 174 13 175 1 100 = true by decide +kernel) h) H
        refine pG_gd g2 ?_
        replace H := pRun (ls' := [.ref 173, .int p1, .ref 29, .int p3, .int p4, .int x5, u6]) (st' := [.int (kI 0), .ref (175 + 1 * ix x5)]) 1 rfl H
        obtain ⟨rv, h1, hc, H⟩ := pCalT 240 2 (as := [.ref (175 + 1 * ix x5), .int (kI 0)]) (rest := []) rfl (by decide) (by decide +kernel) rfl rfl H
        obtain ⟨v1, M1, hD, H⟩ := pUseU (D_240_r_ok hS (pArA (show pAa 13 175 1 1189 = true by decide +kernel) g2) hc) H
        refine pG_call (x := v1) (M1 := M1) hD ?_
        replace H := pRun (ls' := [.ref 173, .int p1, .ref 29, .int p3, .int p4, .int (x5 + kI 1), u6]) (st' := []) 1 rfl H
        obtain ⟨g0, _, H⟩ := pGo (n1 := 6) rfl (mcb_150 rfl) H
        exact (ih _ (by omega)).1 _ _  _ H
    · intro x5 u6 M H
      refine pG_mono (fun v N h => hC.2.1 x5 M v N h) ?_
      unfold S_150_9
      replace H := pRun (ls' := [.ref 173, .int p1, .ref 29, .int p3, .int p4, .int x5, u6]) (st' := [.int (kI 24), .int x5]) 2 rfl H
      rcases pIfc (n1 := 13) rfl (mcb_150 rfl) (mcb_150 rfl) H with ⟨g1, g0, _, H⟩ | ⟨g1, g0, _, H⟩
      · refine pG_pos (c := (kI 24) ≤ x5) g1 ?_
        replace H := pRun (ls' := [.ref 173, .int p1, .ref 29, .int p3, .int p4, .int (kI 0), .int (kI 0)]) (st' := []) 4 rfl H
        obtain ⟨g0, _, H⟩ := pFall (mcb_150 rfl) H
        exact (ih _ (by omega)).2.2 _ _  _ H
      · refine pG_neg (c := (kI 24) ≤ x5) g1 ?_
        replace H := pRun (ls' := [.ref 173, .int p1, .ref 29, .int p3, .int p4, .int x5, u6]) (st' := [.int x5, .int p1]) 2 rfl H
        obtain ⟨rv, h1, hc, H⟩ := pCalT 37 2 (as := [.int p1, .int x5]) (rest := []) rfl (by decide) (by decide +kernel) rfl rfl H
        replace H := pUseF (f_37_ok hS hc) H
        rcases pIf0 (n1 := 12) rfl (mcb_150 rfl) (mcb_150 rfl) H with ⟨g2, g0, _, H⟩ | ⟨g2, g0, _, H⟩
        · refine pG_pos (c := (f_37 p1 x5) = 0) g2 ?_
          replace H := pRun (ls' := [.ref 173, .int p1, .ref 29, .int p3, .int p4, .int (x5 + kI 1), u6]) (st' := []) 1 rfl H
          obtain ⟨g0, _, H⟩ := pGo (n1 := 9) rfl (mcb_150 rfl) H
          exact (ih _ (by omega)).2.1 _ _  _ H
        · refine pG_neg (c := (f_37 p1 x5) = 0) g2 ?_
          replace H := pRun (ls' := [.ref 173, .int p1, .ref 29, .int p3, .int p4, .int x5, u6]) (st' := [.int x5, .ref 29, .ref 173]) 3 rfl H
          obtain ⟨g3, H⟩ := pIld (n := 24) (pLt (show pCa 29 24 = true by decide +kernel)) (pLn hS (show pCa 29 24 = true by decide +kernel)) H
          refine pG_gd g3 ?_
          replace H := pRun (ls' := [.ref 173, .int p1, .ref 29, .int p3, .int p4, .int x5, u6]) (st' := [.int p4, .int p3, .int (M 29 (ix x5)), .ref 173]) 2 rfl H
          obtain ⟨rv, h1, hc, H⟩ := pCalV 151 3 173 (as := [.int (M 29 (ix x5)), .int p3, .int p4]) (rest := []) rfl (by decide) (by decide +kernel) rfl rfl H
          obtain ⟨v1, M1, hD, H⟩ := pUseU (D_151_ok hS hc) H
          refine pG_call (x := v1) (M1 := M1) hD ?_
          obtain ⟨g0, _, H⟩ := pFall (mcb_150 rfl) H
          replace H := pRun (ls' := [.ref 173, .int p1, .ref 29, .int p3, .int p4, .int (x5 + kI 1), u6]) (st' := []) 1 rfl H
          obtain ⟨g0, _, H⟩ := pGo (n1 := 9) rfl (mcb_150 rfl) H
          exact (ih _ (by omega)).2.1 _ _  _ H
    · intro x5 x6 M H
      refine pG_mono (fun v N h => hC.2.2 x5 x6 M v N h) ?_
      unfold S_150_14
      replace H := pRun (ls' := [.ref 173, .int p1, .ref 29, .int p3, .int p4, .int x5, .int x6]) (st' := [.int p4, .int x6]) 2 rfl H
      rcases pIfc (n1 := 16) rfl (mcb_150 rfl) (mcb_150 rfl) H with ⟨g1, g0, _, H⟩ | ⟨g1, g0, _, H⟩
      · refine pG_pos (c := p4 < x6) g1 ?_
        replace H := pRun (ls' := [.ref 173, .int p1, .ref 29, .int p3, .int p4, .int x5, .int x6]) (st' := [.int x5]) 1 rfl H
        exact pG_ret (pRetI H)
      · refine pG_neg (c := p4 < x6) g1 ?_
        replace H := pRun (ls' := [.ref 173, .int p1, .ref 29, .int p3, .int p4, .int x5, .int x6]) (st' := [.ref 173, .int x5]) 2 rfl H
        replace H := pGetR (r := 174) (pRf hS (by decide +kernel)) rfl H
        replace H := pRun (ls' := [.ref 173, .int p1, .ref 29, .int p3, .int p4, .int x5, .int x6]) (st' := [.int p3, .ref 174, .int x5]) 1 rfl H
        obtain ⟨g2, H⟩ := pAld (n := 13) (r := 175 + 1 * ix p3) (pArL hS (show pAr 174 13 175 1 100 = true by decide +kernel)) (fun h => pArR hS (show pAr 174 13 175 1 100 = true by decide +kernel) h) H
        refine pG_gd g2 ?_
        replace H := pRun (ls' := [.ref 173, .int p1, .ref 29, .int p3, .int p4, .int x5, .int x6]) (st' := [.int x6, .ref (175 + 1 * ix p3), .int x5]) 1 rfl H
        obtain ⟨g3, H⟩ := pIld (n := 1189) (pLt (pArA (show pAa 13 175 1 1189 = true by decide +kernel) g2)) (pLn hS (pArA (show pAa 13 175 1 1189 = true by decide +kernel) g2)) H
        refine pG_gd g3 ?_
        replace H := pRun (ls' := [.ref 173, .int p1, .ref 29, .int p3, .int p4, .int (x5 + (M (175 + 1 * ix p3) (ix x6))), .int (x6 + kI 1)]) (st' := []) 3 rfl H
        obtain ⟨g0, _, H⟩ := pGo (n1 := 14) rfl (mcb_150 rfl) H
        exact (ih _ (by omega)).2.2 _ _  _ H
theorem L_150_6_ok {X : aX} {F d : Nat} {K : Nat → aK} (hS : pS K) {p1 : Int32} {p3 : Int32} {p4 : Int32} {out : Option Value × aH} {f : Nat} {x5 : Int32} {u6 : Value} {M : pMem} (H : pm X F d 150 f 6 [.iload 5, .iload 3, .if_icmp .gt 8] [.ref 173, .int p1, .ref 29, .int p3, .int p4, .int x5, u6] [] (pH K M) out) : pG eI K out (L_150_6 p1 p3 p4 x5 M) := by
  refine pG_all (C := fun P : (Int32 → pMem → pT Int32) × (Int32 → pMem → pT Int32) × (Int32 → Int32 → pMem → pT Int32) => C_150 p1 p3 p4 P.1 P.2.1 P.2.2) (T := fun P => P.1 x5 M) eI_inj ((fun _ _ _ _ => True), (fun _ _ _ _ => True), (fun _ _ _ _ _ => True)) ?_ (fun P hP => (K_150 hS P.1 P.2.1 P.2.2 hP f).1 _ _ _ H)
  exact ⟨(fun _ _ _ _ _ => trivial), (fun _ _ _ _ _ => trivial), (fun _ _ _ _ _ _ => trivial)⟩
theorem L_150_9_ok {X : aX} {F d : Nat} {K : Nat → aK} (hS : pS K) {p1 : Int32} {p3 : Int32} {p4 : Int32} {out : Option Value × aH} {f : Nat} {x5 : Int32} {u6 : Value} {M : pMem} (H : pm X F d 150 f 9 [.iload 5, .bipush 24, .if_icmp .ge 13] [.ref 173, .int p1, .ref 29, .int p3, .int p4, .int x5, u6] [] (pH K M) out) : pG eI K out (L_150_9 p1 p3 p4 x5 M) := by
  refine pG_all (C := fun P : (Int32 → pMem → pT Int32) × (Int32 → pMem → pT Int32) × (Int32 → Int32 → pMem → pT Int32) => C_150 p1 p3 p4 P.1 P.2.1 P.2.2) (T := fun P => P.2.1 x5 M) eI_inj ((fun _ _ _ _ => True), (fun _ _ _ _ => True), (fun _ _ _ _ _ => True)) ?_ (fun P hP => (K_150 hS P.1 P.2.1 P.2.2 hP f).2.1 _ _ _ H)
  exact ⟨(fun _ _ _ _ _ => trivial), (fun _ _ _ _ _ => trivial), (fun _ _ _ _ _ _ => trivial)⟩
theorem L_150_14_ok {X : aX} {F d : Nat} {K : Nat → aK} (hS : pS K) {p1 : Int32} {p3 : Int32} {p4 : Int32} {out : Option Value × aH} {f : Nat} {x5 : Int32} {x6 : Int32} {M : pMem} (H : pm X F d 150 f 14 [.iload 6, .iload 4, .if_icmp .gt 16] [.ref 173, .int p1, .ref 29, .int p3, .int p4, .int x5, .int x6] [] (pH K M) out) : pG eI K out (L_150_14 p1 p3 p4 x5 x6 M) := by
  refine pG_all (C := fun P : (Int32 → pMem → pT Int32) × (Int32 → pMem → pT Int32) × (Int32 → Int32 → pMem → pT Int32) => C_150 p1 p3 p4 P.1 P.2.1 P.2.2) (T := fun P => P.2.2 x5 x6 M) eI_inj ((fun _ _ _ _ => True), (fun _ _ _ _ => True), (fun _ _ _ _ _ => True)) ?_ (fun P hP => (K_150 hS P.1 P.2.1 P.2.2 hP f).2.2 _ _ _ H)
  exact ⟨(fun _ _ _ _ _ => trivial), (fun _ _ _ _ _ => trivial), (fun _ _ _ _ _ _ => trivial)⟩
theorem D_150_ok {X : aX} {F d : Nat} {K : Nat → aK} (hS : pS K) {p1 : Int32} {p3 : Int32} {p4 : Int32} {M : pMem} {out : Option Value × aH} (H : aM X F d 150 [.ref 173, .int p1, .ref 29, .int p3, .int p4] (pH K M) = some out) : pG eI K out (D_150 p1 p3 p4 M) := by
  obtain ⟨d', g0, _, H⟩ := pEnt (n := 7) (ls := [.ref 173, .int p1, .ref 29, .int p3, .int p4, aD, aD]) (mcb_150 rfl) (by decide +kernel) rfl H
  unfold D_150
  replace H := pRun (ls' := [.ref 173, .int p1, .ref 29, .int p3, .int p4, aD, aD]) (st' := [.int p3]) 1 rfl H
  rcases pIf0 (n1 := 4) rfl (mcb_150 rfl) (mcb_150 rfl) H with ⟨g1, g0, _, H⟩ | ⟨g1, g0, _, H⟩
  · refine pG_pos (c := p3 < 0) g1 ?_
    replace H := pRun (ls' := [.ref 173, .int p1, .ref 29, .int p3, .int p4, aD, aD]) (st' := [.int (kI 0)]) 1 rfl H
    exact pG_ret (pRetI H)
  · refine pG_neg (c := p3 < 0) g1 ?_
    replace H := pRun (ls' := [.ref 173, .int p1, .ref 29, .int p3, .int p4, aD, aD]) (st' := [.int (kI 12), .int p3]) 2 rfl H
    rcases pIfc (n1 := 4) rfl (mcb_150 rfl) (mcb_150 rfl) H with ⟨g2, g0, _, H⟩ | ⟨g2, g0, _, H⟩
    · refine pG_pos (c := (kI 12) < p3) g2 ?_
      replace H := pRun (ls' := [.ref 173, .int p1, .ref 29, .int p3, .int p4, aD, aD]) (st' := [.int (kI 0)]) 1 rfl H
      exact pG_ret (pRetI H)
    · refine pG_neg (c := (kI 12) < p3) g2 ?_
      replace H := pRun (ls' := [.ref 173, .int p1, .ref 29, .int p3, .int p4, aD, aD]) (st' := [.int p4]) 1 rfl H
      rcases pIf0 (n1 := 4) rfl (mcb_150 rfl) (mcb_150 rfl) H with ⟨g3, g0, _, H⟩ | ⟨g3, g0, _, H⟩
      · refine pG_pos (c := p4 < 0) g3 ?_
        replace H := pRun (ls' := [.ref 173, .int p1, .ref 29, .int p3, .int p4, aD, aD]) (st' := [.int (kI 0)]) 1 rfl H
        exact pG_ret (pRetI H)
      · refine pG_neg (c := p4 < 0) g3 ?_
        replace H := pRun (ls' := [.ref 173, .int p1, .ref 29, .int p3, .int p4, aD, aD]) (st' := [.int (kI 1188), .int p4]) 2 rfl H
        rcases pIfc (n1 := 5) rfl (mcb_150 rfl) (mcb_150 rfl) H with ⟨g4, g0, _, H⟩ | ⟨g4, g0, _, H⟩
        · refine pG_pos (c := p4 ≤ (kI 1188)) g4 ?_
          replace H := pRun (ls' := [.ref 173, .int p1, .ref 29, .int p3, .int p4, .int (kI 0), aD]) (st' := []) 2 rfl H
          obtain ⟨g0, _, H⟩ := pFall (mcb_150 rfl) H
          exact L_150_6_ok hS  H
        · refine pG_neg (c := p4 ≤ (kI 1188)) g4 ?_
          replace H := pRun (ls' := [.ref 173, .int p1, .ref 29, .int p3, .int p4, aD, aD]) (st' := [.int (kI 0)]) 1 rfl H
          exact pG_ret (pRetI H)
def l_150 : List (Nat × Nat) := []
theorem FC_150 {p1 : Int32} {p3 : Int32} {p4 : Int32} : C_150 p1 p3 p4 (fun _ M _ N => pFr (l_150) M N) (fun _ M _ N => pFr (l_150) M N) (fun _ _ M _ N => pFr (l_150) M N) := ⟨fun x5 M => show pTf (l_150) M (S_150_6 p1 p3 p4 _ _ _ x5 M) from (tf_if (tf_gd fun g3 => (tf_putS pFr_refl (fun _ => rfl) fun M1 f1 => (tf_jump f1))) (tf_gd fun g2 => (tf_call pFr_refl (fun _ _ h => F_240_r (pArA (show pAa 13 175 1 1189 = true by decide +kernel) g2) h) [] rfl fun _ M1 f1 => (tf_jump f1)))), fun x5 M => show pTf (l_150) M (S_150_9 p1 p3 p4 _ _ _ x5 M) from (tf_if (tf_jump pFr_refl) (tf_if (tf_jump pFr_refl) (tf_gd fun g3 => (tf_call pFr_refl (fun _ _ h => F_151 h) [] rfl fun _ M1 f1 => (tf_jump f1))))), fun x5 x6 M => show pTf (l_150) M (S_150_14 p1 p3 p4 _ _ _ x5 x6 M) from (tf_if (tf_ret pFr_refl) (tf_gd fun g2 => (tf_gd fun g3 => (tf_jump pFr_refl))))⟩
theorem F_150 {p1 : Int32} {p3 : Int32} {p4 : Int32} {M : pMem} {v : Int32} {N : pMem} (h : D_150 p1 p3 p4 M v N) : pFr (l_150) M N :=
  (show pTf (l_150) M (D_150 p1 p3 p4 M) from (tf_if (tf_ret pFr_refl) (tf_if (tf_ret pFr_refl) (tf_if (tf_ret pFr_refl) (tf_if (tf_jumpL (fun _ M _ N => pFr (l_150) M N, fun _ M _ N => pFr (l_150) M N, fun _ _ M _ N => pFr (l_150) M N) (FC_150) rfl pFr_refl) (tf_ret pFr_refl)))))) v N h
/-- TwoCamps$Cut.asGreat(LTwoCamps$Wood;[II)I -/
def D_148 (w : Nat) (p3 : Int32) (M : pMem) : pT Int32 := tIf ((f_227 w (kI 1) M) < (f_227 w (kI 0) M)) (tCall (D_149 (f_226 w (kI 1) M) M) fun v1 M1 => tCall (D_150 (M w 2) (f_227 w (kI 1) M) v1 M1) fun v2 M2 => tRet v2 M2) (tCall (D_149 (f_226 w (kI 0) M) M) fun v1 M1 => tCall (D_150 (M w 2) (f_227 w (kI 0) M) (v1 - (kI 1)) M1) fun v2 M2 => tRet (p3 - v2) M2)
theorem D_148_ok {X : aX} {F d : Nat} {K : Nat → aK} (hS : pS K) {w : Nat} {p3 : Int32} (hw : pK 10 w = true) {M : pMem} {out : Option Value × aH} (H : aM X F d 148 [.ref 173, .ref w, .ref 29, .int p3] (pH K M) = some out) : pG eI K out (D_148 w p3 M) := by
  obtain ⟨d', g0, _, H⟩ := pEnt (n := 6) (ls := [.ref 173, .ref w, .ref 29, .int p3, aD, aD]) (mcb_148 rfl) (by decide +kernel) rfl H
  unfold D_148
  replace H := pRun (ls' := [.ref 173, .ref w, .ref 29, .int p3, aD, aD]) (st' := [.int (kI 0), .ref w]) 2 rfl H
  obtain ⟨rv, h1, hc, H⟩ := pCalV 227 1 w (as := [.int (kI 0)]) (rest := []) rfl (by decide) (by decide +kernel) rfl rfl H
  replace H := pUseF (f_227_ok hS hw hc) H
  replace H := pRun (ls' := [.ref 173, .ref w, .ref 29, .int p3, .int (f_227 w (kI 0) M), aD]) (st' := [.int (kI 1), .ref w]) 3 rfl H
  obtain ⟨rv, h1, hc, H⟩ := pCalV 227 1 w (as := [.int (kI 1)]) (rest := []) rfl (by decide) (by decide +kernel) rfl rfl H
  replace H := pUseF (f_227_ok hS hw hc) H
  replace H := pRun (ls' := [.ref 173, .ref w, .ref 29, .int p3, .int (f_227 w (kI 0) M), .int (f_227 w (kI 1) M)]) (st' := [.int (f_227 w (kI 1) M), .int (f_227 w (kI 0) M)]) 3 rfl H
  rcases pIfc (n1 := 2) rfl (mcb_148 rfl) (mcb_148 rfl) H with ⟨g1, g0, _, H⟩ | ⟨g1, g0, _, H⟩
  · refine pG_pos (c := (f_227 w (kI 1) M) < (f_227 w (kI 0) M)) g1 ?_
    replace H := pRun (ls' := [.ref 173, .ref w, .ref 29, .int p3, .int (f_227 w (kI 0) M), .int (f_227 w (kI 1) M)]) (st' := [.ref w, .ref 173]) 2 rfl H
    replace H := pGetN (v := M w 2) rfl (by decide) H
    replace H := pRun (ls' := [.ref 173, .ref w, .ref 29, .int p3, .int (f_227 w (kI 0) M), .int (f_227 w (kI 1) M)]) (st' := [.int (kI 1), .ref w, .int (f_227 w (kI 1) M), .ref 29, .int (M w 2), .ref 173]) 4 rfl H
    obtain ⟨rv, h1, hc, H⟩ := pCalV 226 1 w (as := [.int (kI 1)]) (rest := [.int (f_227 w (kI 1) M), .ref 29, .int (M w 2), .ref 173]) rfl (by decide) (by decide +kernel) rfl rfl H
    replace H := pUseF (f_226_ok hS hw hc) H
    replace H := pRun (ls' := [.ref 173, .ref w, .ref 29, .int p3, .int (f_227 w (kI 0) M), .int (f_227 w (kI 1) M)]) (st' := [.ref 29, .int (f_226 w (kI 1) M), .int (f_227 w (kI 1) M), .ref 29, .int (M w 2), .ref 173]) 1 rfl H
    obtain ⟨rv, h1, hc, H⟩ := pCalT 149 2 (as := [.int (f_226 w (kI 1) M), .ref 29]) (rest := [.int (f_227 w (kI 1) M), .ref 29, .int (M w 2), .ref 173]) rfl (by decide) (by decide +kernel) rfl rfl H
    obtain ⟨v1, M1, hD, H⟩ := pUseI (D_149_ok hS hc) H
    refine pG_call (x := v1) (M1 := M1) hD ?_
    obtain ⟨rv, h1, hc, H⟩ := pCalV 150 4 173 (as := [.int (M w 2), .ref 29, .int (f_227 w (kI 1) M), .int v1]) (rest := []) rfl (by decide) (by decide +kernel) rfl rfl H
    obtain ⟨v2, M2, hD, H⟩ := pUseI (D_150_ok hS hc) H
    refine pG_call (x := v2) (M1 := M2) hD ?_
    exact pG_ret (pRetI H)
  · refine pG_neg (c := (f_227 w (kI 1) M) < (f_227 w (kI 0) M)) g1 ?_
    replace H := pRun (ls' := [.ref 173, .ref w, .ref 29, .int p3, .int (f_227 w (kI 0) M), .int (f_227 w (kI 1) M)]) (st' := [.ref w, .ref 173, .int p3]) 3 rfl H
    replace H := pGetN (v := M w 2) rfl (by decide) H
    replace H := pRun (ls' := [.ref 173, .ref w, .ref 29, .int p3, .int (f_227 w (kI 0) M), .int (f_227 w (kI 1) M)]) (st' := [.int (kI 0), .ref w, .int (f_227 w (kI 0) M), .ref 29, .int (M w 2), .ref 173, .int p3]) 4 rfl H
    obtain ⟨rv, h1, hc, H⟩ := pCalV 226 1 w (as := [.int (kI 0)]) (rest := [.int (f_227 w (kI 0) M), .ref 29, .int (M w 2), .ref 173, .int p3]) rfl (by decide) (by decide +kernel) rfl rfl H
    replace H := pUseF (f_226_ok hS hw hc) H
    replace H := pRun (ls' := [.ref 173, .ref w, .ref 29, .int p3, .int (f_227 w (kI 0) M), .int (f_227 w (kI 1) M)]) (st' := [.ref 29, .int (f_226 w (kI 0) M), .int (f_227 w (kI 0) M), .ref 29, .int (M w 2), .ref 173, .int p3]) 1 rfl H
    obtain ⟨rv, h1, hc, H⟩ := pCalT 149 2 (as := [.int (f_226 w (kI 0) M), .ref 29]) (rest := [.int (f_227 w (kI 0) M), .ref 29, .int (M w 2), .ref 173, .int p3]) rfl (by decide) (by decide +kernel) rfl rfl H
    obtain ⟨v1, M1, hD, H⟩ := pUseI (D_149_ok hS hc) H
    refine pG_call (x := v1) (M1 := M1) hD ?_
    replace H := pRun (ls' := [.ref 173, .ref w, .ref 29, .int p3, .int (f_227 w (kI 0) M), .int (f_227 w (kI 1) M)]) (st' := [.int (v1 - (kI 1)), .int (f_227 w (kI 0) M), .ref 29, .int (M w 2), .ref 173, .int p3]) 2 rfl H
    obtain ⟨rv, h1, hc, H⟩ := pCalV 150 4 173 (as := [.int (M w 2), .ref 29, .int (f_227 w (kI 0) M), .int (v1 - (kI 1))]) (rest := [.int p3]) rfl (by decide) (by decide +kernel) rfl rfl H
    obtain ⟨v2, M2, hD, H⟩ := pUseI (D_150_ok hS hc) H
    refine pG_call (x := v2) (M1 := M2) hD ?_
    replace H := pRun (ls' := [.ref 173, .ref w, .ref 29, .int p3, .int (f_227 w (kI 0) M), .int (f_227 w (kI 1) M)]) (st' := [.int (p3 - v2)]) 1 rfl H
    exact pG_ret (pRetI H)
def l_148 (w : Nat) : List (Nat × Nat) := []
theorem F_148 {w : Nat} {p3 : Int32} (hw : pK 10 w = true) {M : pMem} {v : Int32} {N : pMem} (h : D_148 w p3 M v N) : pFr (l_148 w) M N :=
  (show pTf (l_148 w) M (D_148 w p3 M) from (tf_if (tf_call pFr_refl (fun _ _ h => F_149 h) [] rfl fun _ M1 f1 => (tf_call f1 (fun _ _ h => F_150 h) [] rfl fun _ M2 f2 => (tf_ret f2))) (tf_call pFr_refl (fun _ _ h => F_149 h) [] rfl fun _ M1 f1 => (tf_call f1 (fun _ _ h => F_150 h) [] rfl fun _ M2 f2 => (tf_ret f2))))) v N h
/-- TwoCamps.goThrough(III)I -/
def D_30 (p1 : Int32) (p2 : Int32) (p3 : Int32) (M : pMem) : pT Int32 := tCall (D_217 M) fun v1 M1 => tCall (D_138 19 v1 p1 p2 p3 M1) fun v2 M2 => tCall (D_190 19 v1 M2) fun _ M3 => tCall (D_218 M3) fun _ M4 => tRet v2 M4
theorem D_30_ok {X : aX} {F d : Nat} {K : Nat → aK} (hS : pS K) {p1 : Int32} {p2 : Int32} {p3 : Int32} {M : pMem} {out : Option Value × aH} (H : aM X F d 30 [.ref 0, .int p1, .int p2, .int p3] (pH K M) = some out) : pG eI K out (D_30 p1 p2 p3 M) := by
  obtain ⟨d', g0, _, H⟩ := pEnt (n := 6) (ls := [.ref 0, .int p1, .int p2, .int p3, aD, aD]) (mcb_30 rfl) (by decide +kernel) rfl H
  unfold D_30
  replace H := pRun (ls' := [.ref 0, .int p1, .int p2, .int p3, aD, aD]) (st' := [.ref 0]) 1 rfl H
  replace H := pGetR (r := 18) (pRf hS (by decide +kernel)) rfl H
  obtain ⟨rv, h1, hc, H⟩ := pCalV 217 0 18 (as := []) (rest := []) rfl (by decide) (by decide +kernel) rfl rfl H
  obtain ⟨v1, M1, hD, H⟩ := pUseR (D_217_ok hS hc) H
  have hv1 := D_217_k hD
  refine pG_call (x := v1) (M1 := M1) hD ?_
  replace H := pRun (ls' := [.ref 0, .int p1, .int p2, .int p3, .ref v1, aD]) (st' := [.ref 0]) 2 rfl H
  replace H := pGetR (r := 130) (pRf hS (by decide +kernel)) rfl H
  replace H := pRun (ls' := [.ref 0, .int p1, .int p2, .int p3, .ref v1, aD]) (st' := [.ref 0, .ref 130]) 1 rfl H
  replace H := pGetR (r := 18) (pRf hS (by decide +kernel)) rfl H
  replace H := pGetR (r := 19) (pRf hS (by decide +kernel)) rfl H
  replace H := pRun (ls' := [.ref 0, .int p1, .int p2, .int p3, .ref v1, aD]) (st' := [.int p3, .int p2, .int p1, .ref v1, .ref 19, .ref 130]) 4 rfl H
  obtain ⟨rv, h1, hc, H⟩ := pCalV 138 5 130 (as := [.ref 19, .ref v1, .int p1, .int p2, .int p3]) (rest := []) rfl (by decide) (by decide +kernel) rfl rfl H
  obtain ⟨v2, M2, hD, H⟩ := pUseI (D_138_ok hS (show pK 10 19 = true by decide +kernel) hv1 hc) H
  refine pG_call (x := v2) (M1 := M2) hD ?_
  replace H := pRun (ls' := [.ref 0, .int p1, .int p2, .int p3, .ref v1, .int v2]) (st' := [.ref 0]) 2 rfl H
  replace H := pGetR (r := 133) (pRf hS (by decide +kernel)) rfl H
  replace H := pRun (ls' := [.ref 0, .int p1, .int p2, .int p3, .ref v1, .int v2]) (st' := [.ref 0, .ref 133]) 1 rfl H
  replace H := pGetR (r := 18) (pRf hS (by decide +kernel)) rfl H
  replace H := pGetR (r := 19) (pRf hS (by decide +kernel)) rfl H
  replace H := pRun (ls' := [.ref 0, .int p1, .int p2, .int p3, .ref v1, .int v2]) (st' := [.ref v1, .ref 19, .ref 133]) 1 rfl H
  obtain ⟨rv, h1, hc, H⟩ := pCalV 190 2 133 (as := [.ref 19, .ref v1]) (rest := []) rfl (by decide) (by decide +kernel) rfl rfl H
  obtain ⟨v3, M3, hD, H⟩ := pUseU (D_190_ok hS (show pK 10 19 = true by decide +kernel) hv1 hc) H
  refine pG_call (x := v3) (M1 := M3) hD ?_
  replace H := pRun (ls' := [.ref 0, .int p1, .int p2, .int p3, .ref v1, .int v2]) (st' := [.ref 0]) 1 rfl H
  replace H := pGetR (r := 18) (pRf hS (by decide +kernel)) rfl H
  obtain ⟨rv, h1, hc, H⟩ := pCalV 218 0 18 (as := []) (rest := []) rfl (by decide) (by decide +kernel) rfl rfl H
  obtain ⟨v4, M4, hD, H⟩ := pUseU (D_218_ok hS hc) H
  refine pG_call (x := v4) (M1 := M4) hD ?_
  replace H := pRun (ls' := [.ref 0, .int p1, .int p2, .int p3, .ref v1, .int v2]) (st' := [.int v2]) 1 rfl H
  exact pG_ret (pRetI H)
def l_30 : List (Nat × Nat) := [(19, 6), (19, 7), (19, 8), (19, 9), (19, 10), (19, 11), (23, 999), (22, 999), (19, 2), (19, 4), (19, 5), (19, 3), (26, 999)]
theorem F_30 {p1 : Int32} {p2 : Int32} {p3 : Int32} {M : pMem} {v : Int32} {N : pMem} (h : D_30 p1 p2 p3 M v N) : pFr (l_30) M N :=
  (show pTf (l_30) M (D_30 p1 p2 p3 M) from (tf_callR pFr_refl (fun _ _ h => F_217 h) [] rfl fun v1 M1 d1 f1 => have hv1 := D_217_k d1; (tf_call f1 (fun _ _ h => F_138 (show pK 10 19 = true by decide +kernel) hv1 h) [0, 1, 2, 3, 4, 5, 6, 7, 8, 9, 10] rfl fun _ M2 f2 => (tf_call f2 (fun _ _ h => F_190 (show pK 10 19 = true by decide +kernel) hv1 h) [11] rfl fun _ M3 f3 => (tf_call f3 (fun _ _ h => F_218 h) [12] rfl fun _ M4 f4 => (tf_ret f4)))))) v N h
/-- TwoCamps.ofFriends(II)I -/
def D_31 (p1 : Int32) (p2 : Int32) (M : pMem) : pT Int32 := tCall (D_217 M) fun v1 M1 => tIf (¬ p2 = (kI 8)) (tCall (D_185 19 v1 p1 M1) fun _ M2 => tIf (¬ p2 = (kI 6)) (tIf ((p2 - (kI 3)) < 0) (tRet (kI (-1)) M2) (tIf ((kI 3) ≤ (p2 - (kI 3))) (tRet (kI (-1)) M2) (tGd (pIn (p2 - (kI 3)) 3) <| tRet (M2 136 (ix (p2 - (kI 3)))) M2))) (tCall (D_187 19 p1 M2) fun v3 M3 => tRet v3 M3)) (tCall (D_189 19 v1 p1 M1) fun v2 M2 => tRet v2 M2)
theorem D_31_ok {X : aX} {F d : Nat} {K : Nat → aK} (hS : pS K) {p1 : Int32} {p2 : Int32} {M : pMem} {out : Option Value × aH} (H : aM X F d 31 [.ref 0, .int p1, .int p2] (pH K M) = some out) : pG eI K out (D_31 p1 p2 M) := by
  obtain ⟨d', g0, _, H⟩ := pEnt (n := 6) (ls := [.ref 0, .int p1, .int p2, aD, aD, aD]) (mcb_31 rfl) (by decide +kernel) rfl H
  unfold D_31
  replace H := pRun (ls' := [.ref 0, .int p1, .int p2, aD, aD, aD]) (st' := [.ref 0]) 1 rfl H
  replace H := pGetR (r := 18) (pRf hS (by decide +kernel)) rfl H
  replace H := pGetR (r := 19) (pRf hS (by decide +kernel)) rfl H
  replace H := pRun (ls' := [.ref 0, .int p1, .int p2, .ref 19, aD, aD]) (st' := [.ref 0]) 2 rfl H
  replace H := pGetR (r := 18) (pRf hS (by decide +kernel)) rfl H
  obtain ⟨rv, h1, hc, H⟩ := pCalV 217 0 18 (as := []) (rest := []) rfl (by decide) (by decide +kernel) rfl rfl H
  obtain ⟨v1, M1, hD, H⟩ := pUseR (D_217_ok hS hc) H
  have hv1 := D_217_k hD
  refine pG_call (x := v1) (M1 := M1) hD ?_
  replace H := pRun (ls' := [.ref 0, .int p1, .int p2, .ref 19, .ref v1, aD]) (st' := [.int (kI 8), .int p2]) 3 rfl H
  rcases pIfc (n1 := 2) rfl (mcb_31 rfl) (mcb_31 rfl) H with ⟨g1, g0, _, H⟩ | ⟨g1, g0, _, H⟩
  · refine pG_pos (c := ¬ p2 = (kI 8)) g1 ?_
    replace H := pRun (ls' := [.ref 0, .int p1, .int p2, .ref 19, .ref v1, aD]) (st' := [.ref 0]) 1 rfl H
    replace H := pGetR (r := 133) (pRf hS (by decide +kernel)) rfl H
    replace H := pRun (ls' := [.ref 0, .int p1, .int p2, .ref 19, .ref v1, aD]) (st' := [.int p1, .ref v1, .ref 19, .ref 133]) 3 rfl H
    obtain ⟨rv, h1, hc, H⟩ := pCalV 185 3 133 (as := [.ref 19, .ref v1, .int p1]) (rest := []) rfl (by decide) (by decide +kernel) rfl rfl H
    obtain ⟨v2, M2, hD, H⟩ := pUseU (D_185_ok hS (show pK 10 19 = true by decide +kernel) hv1 hc) H
    refine pG_call (x := v2) (M1 := M2) hD ?_
    replace H := pRun (ls' := [.ref 0, .int p1, .int p2, .ref 19, .ref v1, aD]) (st' := [.int (kI 6), .int p2]) 2 rfl H
    rcases pIfc (n1 := 4) rfl (mcb_31 rfl) (mcb_31 rfl) H with ⟨g2, g0, _, H⟩ | ⟨g2, g0, _, H⟩
    · refine pG_pos (c := ¬ p2 = (kI 6)) g2 ?_
      replace H := pRun (ls' := [.ref 0, .int p1, .int p2, .ref 19, .ref v1, .int (p2 - (kI 3))]) (st' := [.int (p2 - (kI 3))]) 5 rfl H
      rcases pIf0 (n1 := 7) rfl (mcb_31 rfl) (mcb_31 rfl) H with ⟨g3, g0, _, H⟩ | ⟨g3, g0, _, H⟩
      · refine pG_pos (c := (p2 - (kI 3)) < 0) g3 ?_
        replace H := pRun (ls' := [.ref 0, .int p1, .int p2, .ref 19, .ref v1, .int (p2 - (kI 3))]) (st' := [.int (kI (-1))]) 1 rfl H
        obtain ⟨g0, _, H⟩ := pFall (mcb_31 rfl) H
        exact pG_ret (pRetI H)
      · refine pG_neg (c := (p2 - (kI 3)) < 0) g3 ?_
        replace H := pRun (ls' := [.ref 0, .int p1, .int p2, .ref 19, .ref v1, .int (p2 - (kI 3))]) (st' := [.int (kI 3), .int (p2 - (kI 3))]) 2 rfl H
        rcases pIfc (n1 := 7) rfl (mcb_31 rfl) (mcb_31 rfl) H with ⟨g4, g0, _, H⟩ | ⟨g4, g0, _, H⟩
        · refine pG_pos (c := (kI 3) ≤ (p2 - (kI 3))) g4 ?_
          replace H := pRun (ls' := [.ref 0, .int p1, .int p2, .ref 19, .ref v1, .int (p2 - (kI 3))]) (st' := [.int (kI (-1))]) 1 rfl H
          obtain ⟨g0, _, H⟩ := pFall (mcb_31 rfl) H
          exact pG_ret (pRetI H)
        · refine pG_neg (c := (kI 3) ≤ (p2 - (kI 3))) g4 ?_
          replace H := pRun (ls' := [.ref 0, .int p1, .int p2, .ref 19, .ref v1, .int (p2 - (kI 3))]) (st' := [.ref 0]) 1 rfl H
          replace H := pGetR (r := 133) (pRf hS (by decide +kernel)) rfl H
          replace H := pGetR (r := 136) (pRf hS (by decide +kernel)) rfl H
          replace H := pRun (ls' := [.ref 0, .int p1, .int p2, .ref 19, .ref v1, .int (p2 - (kI 3))]) (st' := [.int (p2 - (kI 3)), .ref 136]) 1 rfl H
          obtain ⟨g5, H⟩ := pIld (n := 3) (pLt (show pCa 136 3 = true by decide +kernel)) (pLn hS (show pCa 136 3 = true by decide +kernel)) H
          refine pG_gd g5 ?_
          obtain ⟨g0, _, H⟩ := pGo (n1 := 8) rfl (mcb_31 rfl) H
          exact pG_ret (pRetI H)
    · refine pG_neg (c := ¬ p2 = (kI 6)) g2 ?_
      replace H := pRun (ls' := [.ref 0, .int p1, .int p2, .ref 19, .ref v1, aD]) (st' := [.ref 0]) 1 rfl H
      replace H := pGetR (r := 133) (pRf hS (by decide +kernel)) rfl H
      replace H := pRun (ls' := [.ref 0, .int p1, .int p2, .ref 19, .ref v1, aD]) (st' := [.int p1, .ref 19, .ref 133]) 2 rfl H
      obtain ⟨rv, h1, hc, H⟩ := pCalV 187 2 133 (as := [.ref 19, .int p1]) (rest := []) rfl (by decide) (by decide +kernel) rfl rfl H
      obtain ⟨v3, M3, hD, H⟩ := pUseI (D_187_ok hS (show pK 10 19 = true by decide +kernel) hc) H
      refine pG_call (x := v3) (M1 := M3) hD ?_
      exact pG_ret (pRetI H)
  · refine pG_neg (c := ¬ p2 = (kI 8)) g1 ?_
    replace H := pRun (ls' := [.ref 0, .int p1, .int p2, .ref 19, .ref v1, aD]) (st' := [.ref 0]) 1 rfl H
    replace H := pGetR (r := 133) (pRf hS (by decide +kernel)) rfl H
    replace H := pRun (ls' := [.ref 0, .int p1, .int p2, .ref 19, .ref v1, aD]) (st' := [.int p1, .ref v1, .ref 19, .ref 133]) 3 rfl H
    obtain ⟨rv, h1, hc, H⟩ := pCalV 189 3 133 (as := [.ref 19, .ref v1, .int p1]) (rest := []) rfl (by decide) (by decide +kernel) rfl rfl H
    obtain ⟨v2, M2, hD, H⟩ := pUseI (D_189_ok hS (show pK 10 19 = true by decide +kernel) hv1 hc) H
    refine pG_call (x := v2) (M1 := M2) hD ?_
    exact pG_ret (pRetI H)
def l_31 : List (Nat × Nat) := []
theorem F_31 {p1 : Int32} {p2 : Int32} {M : pMem} {v : Int32} {N : pMem} (h : D_31 p1 p2 M v N) : pFr (l_31) M N :=
  (show pTf (l_31) M (D_31 p1 p2 M) from (tf_callR pFr_refl (fun _ _ h => F_217 h) [] rfl fun v1 M1 d1 f1 => have hv1 := D_217_k d1; (tf_if (tf_call f1 (fun _ _ h => F_185 (show pK 10 19 = true by decide +kernel) hv1 h) [] rfl fun _ M2 f2 => (tf_if (tf_if (tf_ret f2) (tf_if (tf_ret f2) (tf_gd fun g5 => (tf_ret f2)))) (tf_call f2 (fun _ _ h => F_187 (show pK 10 19 = true by decide +kernel) h) [] rfl fun _ M3 f3 => (tf_ret f3)))) (tf_call f1 (fun _ _ h => F_189 (show pK 10 19 = true by decide +kernel) hv1 h) [] rfl fun _ M2 f2 => (tf_ret f2))))) v N h
/-- TwoCamps.boy(II)I -/
def D_1 (p1 : Int32) (p2 : Int32) (M : pMem) : pT Int32 := tIf ((f_32 p1) = 0) (tRet (kI (-1)) M) (tIf (p2 < 0) (tRet (kI (-1)) M) (tIf ((kI 9) < p2) (tRet (kI (-1)) M) (tIf ((kI 24) ≤ (M 19 0)) (tRet (kI (-1)) M) (tIf ((M 19 4) ≤ 0) (tCall (D_221 19 p1 p2 M) fun v1 M1 => tRet v1 M1) (tRet (kI (-1)) M)))))
theorem D_1_ok {X : aX} {F d : Nat} {K : Nat → aK} (hS : pS K) {p1 : Int32} {p2 : Int32} {M : pMem} {out : Option Value × aH} (H : aM X F d 1 [.ref 0, .int p1, .int p2] (pH K M) = some out) : pG eI K out (D_1 p1 p2 M) := by
  obtain ⟨d', g0, _, H⟩ := pEnt (n := 5) (ls := [.ref 0, .int p1, .int p2, aD, aD]) (mcb_1 rfl) (by decide +kernel) rfl H
  unfold D_1
  replace H := pRun (ls' := [.ref 0, .int p1, .int p2, aD, aD]) (st' := [.ref 0]) 1 rfl H
  replace H := pGetR (r := 18) (pRf hS (by decide +kernel)) rfl H
  replace H := pGetR (r := 19) (pRf hS (by decide +kernel)) rfl H
  replace H := pRun (ls' := [.ref 0, .int p1, .int p2, .ref 19, aD]) (st' := [.int p1]) 2 rfl H
  obtain ⟨rv, h1, hc, H⟩ := pCalT 32 1 (as := [.int p1]) (rest := []) rfl (by decide) (by decide +kernel) rfl rfl H
  replace H := pUseF (f_32_ok hS hc) H
  rcases pIf0 (n1 := 4) rfl (mcb_1 rfl) (mcb_1 rfl) H with ⟨g1, g0, _, H⟩ | ⟨g1, g0, _, H⟩
  · refine pG_pos (c := (f_32 p1) = 0) g1 ?_
    replace H := pRun (ls' := [.ref 0, .int p1, .int p2, .ref 19, aD]) (st' := [.int (kI 0)]) 1 rfl H
    obtain ⟨g0, _, H⟩ := pFall (mcb_1 rfl) H
    replace H := pRun (ls' := [.ref 0, .int p1, .int p2, .ref 19, .int (kI 0)]) (st' := [.int (kI 0)]) 2 rfl H
    rcases pIf0 (n1 := 8) rfl (mcb_1 rfl) (mcb_1 rfl) H with ⟨g2, g0, _, H⟩ | ⟨g2, g0, _, H⟩
    · replace H := pRun (ls' := [.ref 0, .int p1, .int p2, .ref 19, .int (kI 0)]) (st' := [.int (kI (-1))]) 1 rfl H
      exact pG_ret (pRetI H)
    · exact absurd (show ¬ ((kI 0) = 0) from g2) (by decide)
  · refine pG_neg (c := (f_32 p1) = 0) g1 ?_
    replace H := pRun (ls' := [.ref 0, .int p1, .int p2, .ref 19, aD]) (st' := [.int p2]) 1 rfl H
    rcases pIf0 (n1 := 4) rfl (mcb_1 rfl) (mcb_1 rfl) H with ⟨g2, g0, _, H⟩ | ⟨g2, g0, _, H⟩
    · refine pG_pos (c := p2 < 0) g2 ?_
      replace H := pRun (ls' := [.ref 0, .int p1, .int p2, .ref 19, aD]) (st' := [.int (kI 0)]) 1 rfl H
      obtain ⟨g0, _, H⟩ := pFall (mcb_1 rfl) H
      replace H := pRun (ls' := [.ref 0, .int p1, .int p2, .ref 19, .int (kI 0)]) (st' := [.int (kI 0)]) 2 rfl H
      rcases pIf0 (n1 := 8) rfl (mcb_1 rfl) (mcb_1 rfl) H with ⟨g3, g0, _, H⟩ | ⟨g3, g0, _, H⟩
      · replace H := pRun (ls' := [.ref 0, .int p1, .int p2, .ref 19, .int (kI 0)]) (st' := [.int (kI (-1))]) 1 rfl H
        exact pG_ret (pRetI H)
      · exact absurd (show ¬ ((kI 0) = 0) from g3) (by decide)
    · refine pG_neg (c := p2 < 0) g2 ?_
      replace H := pRun (ls' := [.ref 0, .int p1, .int p2, .ref 19, aD]) (st' := [.int (kI 9), .int p2]) 2 rfl H
      rcases pIfc (n1 := 4) rfl (mcb_1 rfl) (mcb_1 rfl) H with ⟨g3, g0, _, H⟩ | ⟨g3, g0, _, H⟩
      · refine pG_pos (c := (kI 9) < p2) g3 ?_
        replace H := pRun (ls' := [.ref 0, .int p1, .int p2, .ref 19, aD]) (st' := [.int (kI 0)]) 1 rfl H
        obtain ⟨g0, _, H⟩ := pFall (mcb_1 rfl) H
        replace H := pRun (ls' := [.ref 0, .int p1, .int p2, .ref 19, .int (kI 0)]) (st' := [.int (kI 0)]) 2 rfl H
        rcases pIf0 (n1 := 8) rfl (mcb_1 rfl) (mcb_1 rfl) H with ⟨g4, g0, _, H⟩ | ⟨g4, g0, _, H⟩
        · replace H := pRun (ls' := [.ref 0, .int p1, .int p2, .ref 19, .int (kI 0)]) (st' := [.int (kI (-1))]) 1 rfl H
          exact pG_ret (pRetI H)
        · exact absurd (show ¬ ((kI 0) = 0) from g4) (by decide)
      · refine pG_neg (c := (kI 9) < p2) g3 ?_
        replace H := pRun (ls' := [.ref 0, .int p1, .int p2, .ref 19, aD]) (st' := [.int (kI 1)]) 1 rfl H
        obtain ⟨g0, _, H⟩ := pGo (n1 := 5) rfl (mcb_1 rfl) H
        replace H := pRun (ls' := [.ref 0, .int p1, .int p2, .ref 19, .int (kI 1)]) (st' := [.int (kI 1)]) 2 rfl H
        rcases pIf0 (n1 := 8) rfl (mcb_1 rfl) (mcb_1 rfl) H with ⟨g4, g0, _, H⟩ | ⟨g4, g0, _, H⟩
        · exact absurd (show (kI 1) = 0 from g4) (by decide)
        · replace H := pRun (ls' := [.ref 0, .int p1, .int p2, .ref 19, .int (kI 1)]) (st' := [.ref 19]) 1 rfl H
          replace H := pGetN (v := M 19 0) rfl (by decide) H
          replace H := pRun (ls' := [.ref 0, .int p1, .int p2, .ref 19, .int (kI 1)]) (st' := [.int (kI 24), .int (M 19 0)]) 1 rfl H
          rcases pIfc (n1 := 8) rfl (mcb_1 rfl) (mcb_1 rfl) H with ⟨g5, g0, _, H⟩ | ⟨g5, g0, _, H⟩
          · refine pG_pos (c := (kI 24) ≤ (M 19 0)) g5 ?_
            replace H := pRun (ls' := [.ref 0, .int p1, .int p2, .ref 19, .int (kI 1)]) (st' := [.int (kI (-1))]) 1 rfl H
            exact pG_ret (pRetI H)
          · refine pG_neg (c := (kI 24) ≤ (M 19 0)) g5 ?_
            replace H := pRun (ls' := [.ref 0, .int p1, .int p2, .ref 19, .int (kI 1)]) (st' := [.ref 19]) 1 rfl H
            replace H := pGetN (v := M 19 4) rfl (by decide) H
            rcases pIf0 (n1 := 9) rfl (mcb_1 rfl) (mcb_1 rfl) H with ⟨g6, g0, _, H⟩ | ⟨g6, g0, _, H⟩
            · refine pG_pos (c := (M 19 4) ≤ 0) g6 ?_
              replace H := pRun (ls' := [.ref 0, .int p1, .int p2, .ref 19, .int (kI 1)]) (st' := [.int p2, .int p1, .ref 19]) 3 rfl H
              obtain ⟨rv, h1, hc, H⟩ := pCalV 221 2 19 (as := [.int p1, .int p2]) (rest := []) rfl (by decide) (by decide +kernel) rfl rfl H
              obtain ⟨v1, M1, hD, H⟩ := pUseI (D_221_ok hS (show pK 10 19 = true by decide +kernel) hc) H
              refine pG_call (x := v1) (M1 := M1) hD ?_
              exact pG_ret (pRetI H)
            · refine pG_neg (c := (M 19 4) ≤ 0) g6 ?_
              replace H := pRun (ls' := [.ref 0, .int p1, .int p2, .ref 19, .int (kI 1)]) (st' := [.int (kI (-1))]) 1 rfl H
              exact pG_ret (pRetI H)
def l_1 : List (Nat × Nat) := [(19, 0), (20, 999), (19, 1), (19, 2), (19, 3)]
theorem F_1 {p1 : Int32} {p2 : Int32} {M : pMem} {v : Int32} {N : pMem} (h : D_1 p1 p2 M v N) : pFr (l_1) M N :=
  (show pTf (l_1) M (D_1 p1 p2 M) from (tf_if (tf_ret pFr_refl) (tf_if (tf_ret pFr_refl) (tf_if (tf_ret pFr_refl) (tf_if (tf_ret pFr_refl) (tf_if (tf_call pFr_refl (fun _ _ h => F_221 (show pK 10 19 = true by decide +kernel) h) [0, 1, 2, 3, 4] rfl fun _ M1 f1 => (tf_ret f1)) (tf_ret pFr_refl))))))) v N h
/-- TwoCamps.like(III)Z -/
def D_2 (p1 : Int32) (p2 : Int32) (p3 : Int32) (M : pMem) : pT Int32 := tIf ((f_223 19 p1 p2 M) = 0) (tRet (kI 0) M) (tIf (¬ (f_35 p3) = 0) (tGd (pIn ((p1 * (kI 24)) + p2) 576) <| tPut (aPut M 22 (ix ((p1 * (kI 24)) + p2)) p3) fun M1 => tRet (kI 1) M1) (tRet (kI 0) M))
theorem D_2_ok {X : aX} {F d : Nat} {K : Nat → aK} (hS : pS K) {p1 : Int32} {p2 : Int32} {p3 : Int32} {M : pMem} {out : Option Value × aH} (H : aM X F d 2 [.ref 0, .int p1, .int p2, .int p3] (pH K M) = some out) : pG eI K out (D_2 p1 p2 p3 M) := by
  obtain ⟨d', g0, _, H⟩ := pEnt (n := 4) (ls := [.ref 0, .int p1, .int p2, .int p3]) (mcb_2 rfl) (by decide +kernel) rfl H
  unfold D_2
  replace H := pRun (ls' := [.ref 0, .int p1, .int p2, .int p3]) (st' := [.ref 0]) 1 rfl H
  replace H := pGetR (r := 18) (pRf hS (by decide +kernel)) rfl H
  replace H := pGetR (r := 19) (pRf hS (by decide +kernel)) rfl H
  replace H := pRun (ls' := [.ref 0, .int p1, .int p2, .int p3]) (st' := [.int p2, .int p1, .ref 19]) 2 rfl H
  obtain ⟨rv, h1, hc, H⟩ := pCalV 223 2 19 (as := [.int p1, .int p2]) (rest := []) rfl (by decide) (by decide +kernel) rfl rfl H
  replace H := pUseF (f_223_ok hS (show pK 10 19 = true by decide +kernel) hc) H
  rcases pIf0 (n1 := 2) rfl (mcb_2 rfl) (mcb_2 rfl) H with ⟨g1, g0, _, H⟩ | ⟨g1, g0, _, H⟩
  · refine pG_pos (c := (f_223 19 p1 p2 M) = 0) g1 ?_
    replace H := pRun (ls' := [.ref 0, .int p1, .int p2, .int p3]) (st' := [.int (kI 0)]) 1 rfl H
    exact pG_ret (pRetI H)
  · refine pG_neg (c := (f_223 19 p1 p2 M) = 0) g1 ?_
    replace H := pRun (ls' := [.ref 0, .int p1, .int p2, .int p3]) (st' := [.int p3]) 1 rfl H
    obtain ⟨rv, h1, hc, H⟩ := pCalT 35 1 (as := [.int p3]) (rest := []) rfl (by decide) (by decide +kernel) rfl rfl H
    replace H := pUseF (f_35_ok hS hc) H
    rcases pIf0 (n1 := 3) rfl (mcb_2 rfl) (mcb_2 rfl) H with ⟨g2, g0, _, H⟩ | ⟨g2, g0, _, H⟩
    · refine pG_pos (c := ¬ (f_35 p3) = 0) g2 ?_
      replace H := pRun (ls' := [.ref 0, .int p1, .int p2, .int p3]) (st' := [.ref 0]) 1 rfl H
      replace H := pGetR (r := 18) (pRf hS (by decide +kernel)) rfl H
      replace H := pGetR (r := 19) (pRf hS (by decide +kernel)) rfl H
      replace H := pGetR (r := 22) (pRf hS (by decide +kernel)) rfl H
      replace H := pRun (ls' := [.ref 0, .int p1, .int p2, .int p3]) (st' := [.int p3, .int ((p1 * (kI 24)) + p2), .ref 22]) 6 rfl H
      obtain ⟨g3, M1, eM1, H⟩ := pIst (n := 576) (pLn hS (show pCa 22 576 = true by decide +kernel)) H
      refine pG_gd g3 (pG_put (M2 := M1) eM1 ?_)
      replace H := pRun (ls' := [.ref 0, .int p1, .int p2, .int p3]) (st' := [.int (kI 1)]) 1 rfl H
      exact pG_ret (pRetI H)
    · refine pG_neg (c := ¬ (f_35 p3) = 0) g2 ?_
      replace H := pRun (ls' := [.ref 0, .int p1, .int p2, .int p3]) (st' := [.int (kI 0)]) 1 rfl H
      exact pG_ret (pRetI H)
def l_2 : List (Nat × Nat) := [(22, 999)]
theorem F_2 {p1 : Int32} {p2 : Int32} {p3 : Int32} {M : pMem} {v : Int32} {N : pMem} (h : D_2 p1 p2 p3 M v N) : pFr (l_2) M N :=
  (show pTf (l_2) M (D_2 p1 p2 p3 M) from (tf_if (tf_ret pFr_refl) (tf_if (tf_gd fun g3 => (tf_putA pFr_refl 0 rfl fun M1 f1 => (tf_ret f1))) (tf_ret pFr_refl)))) v N h
